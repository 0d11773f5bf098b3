import java.util.HashMap;
import java.util.Map;

/**
 * Plans and decisions once more, for nights that are too big to list all plans: a situation is a slot
 * and the exposures made in front of it, and is worked out once, from the first slot on. It is handed
 * what can be observed and the odds, and follows the night by itself.
 */
final class MemoNight {
    static final long NO_PLAN = Long.MIN_VALUE;
    private static final int CLEAR = 1;
    private static final int CLOUDY = 2;

    /** What is asked of the plans from a slot on. */
    private static final class Best {
        final long value;
        final long count;
        final int target;

        Best(long value, long count, int target) {
            this.value = value;
            this.count = count;
            this.target = target;
        }
    }

    /** Which plans are looked at, and what an exposure counts. */
    private static final class Rules {
        boolean turns = true;
        boolean onlyNumber;
        int without = -1;
        int fixedSlot = -1;
        int fixedTarget = -1;
    }

    final int[] teams;
    final int[] wanted;
    final long[] values;
    /** The targets that can be observed in each slot, as bit masks. */
    final int[] seen;
    final long[] odds;
    final int[] percents;
    final int[] made;
    int waived;
    int present;
    int sky;
    int skyBefore;

    private final Map<Integer, Best> plans = new HashMap<>();
    private final Map<Integer, Long> means = new HashMap<>();
    private final Map<Integer, Long> gains = new HashMap<>();

    MemoNight(int slots, int targets) {
        teams = new int[targets];
        wanted = new int[targets];
        values = new long[targets];
        made = new int[targets];
        seen = new int[slots];
        odds = new long[slots];
        percents = new int[3];
    }

    // ---- the night as it goes on

    void look(boolean clear) {
        sky = clear ? CLEAR : CLOUDY;
    }

    void moveOn(int target) {
        if (target >= 0) {
            made[target]++;
        }
        present++;
        skyBefore = sky;
        sky = 0;
    }

    private int turns(int team) {
        int sum = 0;
        for (int target = 0; target < teams.length; target++) {
            sum += teams[target] == team ? made[target] : 0;
        }
        return sum;
    }

    private boolean isInTurn(int team) {
        for (int other : teams) {
            if ((waived >> other & 1) == 0 && turns(other) < turns(team)) {
                return false;
            }
        }
        return (waived >> team & 1) == 0;
    }

    private boolean canExpose(int target, int slot, boolean withTurns) {
        boolean open = withTurns ? isInTurn(teams[target]) : (waived >> teams[target] & 1) == 0;
        return open && (seen[slot] >> target & 1) == 1 && made[target] < wanted[target];
    }

    int possibleNow() {
        int mask = 0;
        for (int target = 0; sky == CLEAR && target < teams.length; target++) {
            mask |= canExpose(target, present, true) ? 1 << target : 0;
        }
        return mask;
    }

    private int key(int slot) {
        int key = slot;
        for (int count : made) {
            key = 4 * key + count;
        }
        return key;
    }

    // ---- plans

    private long oddsIn(int slot) {
        return slot == present && sky == CLEAR ? 1_000_000 : odds[slot];
    }

    private Best from(int slot, Rules rules) {
        if (slot == seen.length) {
            return new Best(0, 1, -1);
        }
        Best known = plans.get(key(slot));
        if (known == null) {
            known = fresh(slot, rules);
            plans.put(key(slot), known);
        }
        return known;
    }

    private Best fresh(int slot, Rules rules) {
        Best best = new Best(NO_PLAN, 0, -1);
        for (int target = 0; target < teams.length; target++) {
            boolean left = rules.fixedSlot == slot && rules.fixedTarget != target || rules.without == target;
            boolean cloudy = slot == present && sky == CLOUDY;
            if (!left && !cloudy && canExpose(target, slot, rules.turns)) {
                made[target]++;
                Best then = from(slot + 1, rules);
                made[target]--;
                best = better(best, then, rules.onlyNumber ? 1 : values[target] * oddsIn(slot), target);
            }
        }
        return rules.fixedSlot == slot ? best : better(best, from(slot + 1, rules), 0, -1);
    }

    private static Best better(Best best, Best then, long gain, int target) {
        if (then.value == NO_PLAN) {
            return best;
        }
        long value = then.value + gain;
        if (value == best.value) {
            return new Best(value, best.count + then.count, best.target);
        }
        return value > best.value ? new Best(value, then.count, target) : best;
    }

    private Best plan(Rules rules) {
        plans.clear();
        return from(present, rules);
    }

    long planValue() {
        return plan(new Rules()).value;
    }

    long planCount() {
        return plan(new Rules()).count;
    }

    int planned(int asked) {
        Rules rules = new Rules();
        int[] before = made.clone();
        int target = plan(rules).target;
        for (int slot = present; slot < asked; slot++) {
            if (target >= 0) {
                made[target]++;
            }
            target = from(slot + 1, rules).target;
        }
        System.arraycopy(before, 0, made, 0, made.length);
        return target;
    }

    long planValueWith(int slot, int target) {
        Rules rules = new Rules();
        rules.fixedSlot = slot;
        rules.fixedTarget = target;
        return plan(rules).value;
    }

    long worth(int target) {
        Rules rules = new Rules();
        rules.without = target;
        return planValue() - plan(rules).value;
    }

    long priceOfTurns() {
        Rules rules = new Rules();
        rules.turns = false;
        return plan(rules).value - planValue();
    }

    long mostExposures(boolean withTurns) {
        Rules rules = new Rules();
        rules.turns = withTurns;
        rules.onlyNumber = true;
        return plan(rules).value;
    }

    private int greedyTarget(int slot) {
        int best = -1;
        for (int target = 0; target < teams.length; target++) {
            if (canExpose(target, slot, true) && (best < 0 || values[target] > values[best])) {
                best = target;
            }
        }
        return best;
    }

    long greedyValue() {
        int[] before = made.clone();
        long sum = 0;
        for (int slot = present; slot < seen.length; slot++) {
            int target = slot == present && sky == CLOUDY ? -1 : greedyTarget(slot);
            if (target >= 0) {
                sum += values[target] * oddsIn(slot);
                made[target]++;
            }
        }
        System.arraycopy(before, 0, made, 0, made.length);
        return sum;
    }

    // ---- decisions

    private long mixed(long percent, long clear, long cloudy) {
        return (percent * clear + (100 - percent) * cloudy) / 100;
    }

    private long mean(int slot, int skyThen) {
        Long known = means.get(2 * key(slot) + skyThen);
        if (known == null) {
            int choice = skyThen == CLEAR ? decide(slot) : -1;
            known = choice < 0 ? behind(slot, skyThen) : exposed(slot, choice);
            means.put(2 * key(slot) + skyThen, known);
        }
        return known;
    }

    private long behind(int slot, int skyThen) {
        if (slot + 1 == seen.length) {
            return 0;
        }
        return mixed(percents[skyThen], mean(slot + 1, CLEAR), mean(slot + 1, CLOUDY));
    }

    private long exposed(int slot, int target) {
        made[target]++;
        long then = behind(slot, CLEAR);
        made[target]--;
        return 1_000_000 * values[target] + then;
    }

    private int decide(int slot) {
        int choice = -1;
        long most = Long.MIN_VALUE;
        for (int target = 0; target < teams.length; target++) {
            if (canExpose(target, slot, true) && exposed(slot, target) > most) {
                choice = target;
                most = exposed(slot, target);
            }
        }
        return behind(slot, CLEAR) > most ? -1 : choice;
    }

    private long percentNow() {
        if (present == 0) {
            return percents[0];
        }
        return skyBefore == 0 ? odds[present] / 10_000 : percents[skyBefore];
    }

    long meanValue() {
        means.clear();
        if (present == seen.length) {
            return 0;
        }
        return sky > 0 ? mean(present, sky)
                : mixed(percentNow(), mean(present, CLEAR), mean(present, CLOUDY));
    }

    long meanValueOf(int target) {
        means.clear();
        return exposed(present, target);
    }

    int decision() {
        means.clear();
        return sky == CLEAR ? decide(present) : -1;
    }

    long worthOfClear() {
        means.clear();
        return mean(present, CLEAR) - mean(present, CLOUDY);
    }

    /** What some decisions gain: 'n' exposures of a target, 'f' whether it is finished, 'g' greedy points. */
    private long gained(char kind, int counted, int slot, int skyThen) {
        if (slot == seen.length) {
            return kind == 'f' && made[counted] == wanted[counted] ? 1_000_000 : 0;
        }
        Long known = gains.get(2 * key(slot) + skyThen);
        if (known == null) {
            known = freshGained(kind, counted, slot, skyThen);
            gains.put(2 * key(slot) + skyThen, known);
        }
        return known;
    }

    private long freshGained(char kind, int counted, int slot, int skyThen) {
        int choice = kind == 'g' ? greedyTarget(slot) : decide(slot);
        if (skyThen == CLOUDY || choice < 0) {
            return gainedBehind(kind, counted, slot, skyThen);
        }
        long now = kind == 'g' ? 1_000_000 * values[choice] : 0;
        now = kind == 'n' && choice == counted ? 1_000_000 : now;
        made[choice]++;
        long then = gainedBehind(kind, counted, slot, CLEAR);
        made[choice]--;
        return now + then;
    }

    private long gainedBehind(char kind, int counted, int slot, int skyThen) {
        return mixed(percents[skyThen], gained(kind, counted, slot + 1, CLEAR),
                gained(kind, counted, slot + 1, CLOUDY));
    }

    long gainedNow(char kind, int counted) {
        means.clear();
        gains.clear();
        if (present == seen.length || sky > 0) {
            return gained(kind, counted, present, sky);
        }
        return mixed(percentNow(), gained(kind, counted, present, CLEAR),
                gained(kind, counted, present, CLOUDY));
    }
}
