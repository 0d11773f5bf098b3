import java.util.ArrayList;
import java.util.HashMap;
import java.util.List;
import java.util.Map;
import java.util.NoSuchElementException;
import java.util.regex.Matcher;
import java.util.regex.Pattern;

/**
 * The document once more, as slow and as plain as can be: all plans are listed one by one, all
 * situations are worked out from the words of section 6, and every change copies the whole night.
 */
final class NaiveNight {
    static final int TEAM = 0, PEAK = 1, CURVE = 2, TRANSIT = 3, LEAST = 4, AZIMUTH = 5,
            DISTANCE = 6, WANTED = 7, VALUE = 8;
    private static final int[][] NIGHT_RANGES = {{1, 12}};
    private static final int[][] MOON_RANGES =
            {{0, 90}, {0, 30}, {-10, 25}, {0, 359}, {0, 359}, {0, 100}};
    private static final int[][] SKY_RANGES = {{0, 100}, {0, 100}, {0, 100}};
    private static final int[][] TARGET_RANGES = {{0, 3}, {0, 90}, {0, 30}, {-10, 25}, {0, 89},
            {0, 359}, {0, 180}, {1, 3}, {1, 1000}};
    private static final Pattern TOKEN = Pattern.compile(" *([a-z]+|[0-9]+|-[0-9]+|;)?");

    /** All that a change can change. */
    private static final class State {
        int slots = 6;
        int[] moon = {0, 1, -10, 0, 0, 0};
        int[] sky = {50, 80, 30};
        List<int[]> targets = new ArrayList<>();
        int present;
        int seen;
        int points;
        boolean[] waived = new boolean[4];
        int[] made = new int[0];
        List<int[]> past = new ArrayList<>();

        State copy() {
            State other = new State();
            other.slots = slots;
            other.moon = moon.clone();
            other.sky = sky.clone();
            other.targets = new ArrayList<>(targets);
            other.present = present;
            other.seen = seen;
            other.points = points;
            other.waived = waived.clone();
            other.made = made.clone();
            other.past = new ArrayList<>(past);
            return other;
        }

        void begin() {
            present = 0;
            seen = 0;
            points = 0;
            waived = new boolean[4];
            made = new int[targets.size()];
            past = new ArrayList<>();
        }
    }

    /** Raised at the first error of a text. */
    private static final class TextError extends Exception {
        private static final long serialVersionUID = 1L;
        final int code;
        final int position;

        TextError(int code, int position) {
            this.code = code;
            this.position = position;
        }
    }

    private State now = new State();
    private final List<State> before = new ArrayList<>();
    private StringBuilder buffer = new StringBuilder();
    private int errorPosition = -1;
    private String text;
    private int at;

    // ---- setup

    long append(int... words) {
        if (buffer.length() + 20 > 500) {
            throw new IllegalStateException();
        }
        for (int word : words) {
            for (int shift = 24; shift >= 0; shift -= 8) {
                buffer.append((char) (word >> shift & 255));
            }
        }
        return buffer.length();
    }

    long load(int length) {
        if (length < 0 || length > buffer.length()) {
            throw new IllegalArgumentException();
        }
        text = buffer.substring(0, length);
        buffer = new StringBuilder();
        errorPosition = -1;
        try {
            State loaded = read();
            remember();
            now = loaded;
            return now.targets.size();
        } catch (TextError e) {
            errorPosition = e.position;
            return e.code;
        }
    }

    /** Takes the next token; its first byte is where it begins, without the spaces. */
    private String next(int[] first) throws TextError {
        Matcher matcher = TOKEN.matcher(text).region(at, text.length());
        matcher.lookingAt();
        at = matcher.end();
        String token = matcher.group(1);
        first[0] = token == null ? at : matcher.start(1);
        return token == null ? "" : token;
    }

    private int[] numbers(int[][] ranges) throws TextError {
        int[] values = new int[ranges.length];
        int[] first = new int[1];
        for (int i = 0; i < ranges.length; i++) {
            String token = next(first);
            String form = ranges[i][0] < 0 ? "-?[0-9]+" : "[0-9]+";
            if (!token.matches(form)) {
                throw new TextError(-2, first[0]);
            }
            java.math.BigInteger value = new java.math.BigInteger(token);
            if (value.compareTo(java.math.BigInteger.valueOf(ranges[i][0])) < 0
                    || value.compareTo(java.math.BigInteger.valueOf(ranges[i][1])) > 0) {
                throw new TextError(-3, first[0]);
            }
            values[i] = value.intValue();
        }
        if (!next(first).equals(";")) {
            throw new TextError(-2, first[0]);
        }
        return values;
    }

    private State read() throws TextError {
        State loaded = new State();
        int[] first = new int[1];
        at = 0;
        if (!next(first).equals("night")) {
            throw new TextError(-2, first[0]);
        }
        loaded.slots = numbers(NIGHT_RANGES)[0];
        boolean moon = false;
        boolean sky = false;
        while (true) {
            String word = next(first);
            if (word.isEmpty() && at == text.length()) {
                loaded.begin();
                return loaded;
            }
            if (word.equals("moon") && !moon) {
                moon = true;
                loaded.moon = numbers(MOON_RANGES);
            } else if (word.equals("sky") && !sky) {
                sky = true;
                loaded.sky = numbers(SKY_RANGES);
            } else if (word.equals("target") && loaded.targets.size() == 6) {
                throw new TextError(-4, first[0]);
            } else if (word.equals("target")) {
                loaded.targets.add(numbers(TARGET_RANGES));
            } else {
                throw new TextError(-2, first[0]);
            }
        }
    }

    long errorPosition() {
        return errorPosition;
    }

    long count(int what) {
        int sum = 0;
        for (int made : now.made) {
            sum += made;
        }
        int mask = 0;
        for (int[] target : now.targets) {
            mask |= 1 << target[TEAM];
        }
        int[] all = {now.slots, now.targets.size(), mask, now.present, now.points, now.seen, sum};
        if (what < 0 || what >= all.length) {
            throw new IllegalArgumentException();
        }
        return all[what];
    }

    // ---- the sky

    long height(int target, int slot) {
        needTarget(target);
        needSlot(slot);
        int[] t = now.targets.get(target);
        return t[PEAK] - t[CURVE] * (slot - t[TRANSIT]) * (slot - t[TRANSIT]);
    }

    long moonHeight(int slot) {
        needSlot(slot);
        int[] m = now.moon;
        return m[0] - m[1] * (slot - m[2]) * (slot - m[2]);
    }

    long moonDistance(int target, int slot) {
        needTarget(target);
        needSlot(slot);
        int a = (now.targets.get(target)[AZIMUTH] + 15 * slot) % 360;
        int b = (now.moon[3] + now.moon[4] * slot) % 360;
        int d = a > b ? a - b : b - a;
        return d < 360 - d ? d : 360 - d;
    }

    private boolean canObserve(int target, int slot) {
        int[] t = now.targets.get(target);
        if (height(target, slot) < t[LEAST]) {
            return false;
        }
        return moonHeight(slot) <= 0 || moonDistance(target, slot) >= t[DISTANCE] * now.moon[5] / 100;
    }

    long window(int target) {
        needTarget(target);
        long mask = 0;
        for (int slot = 0; slot < now.slots; slot++) {
            mask += canObserve(target, slot) ? 1 << slot : 0;
        }
        return mask;
    }

    long observable(int slot) {
        needSlot(slot);
        long mask = 0;
        for (int target = 0; target < now.targets.size(); target++) {
            mask += canObserve(target, slot) ? 1 << target : 0;
        }
        return mask;
    }

    long highestSlot(int target) {
        needTarget(target);
        for (int slot = 0; slot < now.slots; slot++) {
            boolean best = canObserve(target, slot);
            for (int other = 0; other < now.slots; other++) {
                if (canObserve(target, other) && (height(target, other) > height(target, slot)
                        || height(target, other) == height(target, slot) && other < slot)) {
                    best = false;
                }
            }
            if (best) {
                return slot;
            }
        }
        throw new NoSuchElementException();
    }

    long latestStart(int target) {
        needTarget(target);
        int missing = now.targets.get(target)[WANTED] - now.made[target];
        for (int start = now.slots; start >= now.present; start--) {
            int found = 0;
            for (int slot = start; slot < now.slots; slot++) {
                found += canObserve(target, slot) ? 1 : 0;
            }
            if (found >= missing) {
                return start;
            }
        }
        throw new NoSuchElementException();
    }

    long clearOdds(int slot) {
        needSlot(slot);
        if (slot == 0) {
            return 10_000L * now.sky[0];
        }
        long q = clearOdds(slot - 1);
        return (q * now.sky[1] + (1_000_000 - q) * now.sky[2]) / 100;
    }

    long clearRun(int from, int to) {
        needSlot(from);
        needSlot(to);
        if (to < from) {
            throw new IllegalArgumentException();
        }
        return from == to ? clearOdds(from) : clearRun(from, to - 1) * now.sky[1] / 100;
    }

    // ---- the night as it goes on

    long look(boolean clear) {
        if (now.present == now.slots || now.seen != 0) {
            throw new IllegalStateException();
        }
        remember();
        now.seen = clear ? 1 : 2;
        long mask = 0;
        for (int target = 0; clear && target < now.targets.size(); target++) {
            mask += possible(now.present, target, now.made, true) ? 1 << target : 0;
        }
        return mask;
    }

    long expose(int target) {
        needTarget(target);
        needPossibleNow(target);
        remember();
        now.points += now.targets.get(target)[VALUE];
        now.made[target]++;
        moveOn(target);
        return now.points;
    }

    long pass() {
        if (now.present == now.slots) {
            throw new IllegalStateException();
        }
        remember();
        moveOn(-1);
        return now.present;
    }

    private void moveOn(int target) {
        now.past.add(new int[] {target, now.seen});
        now.present++;
        now.seen = 0;
    }

    long waive(int team) {
        needTeam(team);
        if (!hasTargets(team) || now.waived[team]) {
            throw new IllegalStateException();
        }
        remember();
        now.waived[team] = true;
        return inTurn();
    }

    long restart() {
        remember();
        now.begin();
        return 0;
    }

    long inTurn() {
        long mask = 0;
        for (int team = 0; team < 4; team++) {
            mask += isInTurn(team, now.made) ? 1 << team : 0;
        }
        return mask;
    }

    private boolean hasTargets(int team) {
        return (count(2) >> team & 1) == 1;
    }

    private boolean isInTurn(int team, int[] made) {
        if (!hasTargets(team) || now.waived[team]) {
            return false;
        }
        for (int other = 0; other < 4; other++) {
            if (hasTargets(other) && !now.waived[other] && turns(other, made) < turns(team, made)) {
                return false;
            }
        }
        return true;
    }

    private int turns(int team, int[] made) {
        int sum = 0;
        for (int target = 0; target < now.targets.size(); target++) {
            sum += now.targets.get(target)[TEAM] == team ? made[target] : 0;
        }
        return sum;
    }

    long turnsOf(int team) {
        needTeam(team);
        return turns(team, now.made);
    }

    long exposures(int target) {
        needTarget(target);
        return now.made[target];
    }

    long past(int slot, int what) {
        if (slot < 0 || slot >= now.present) {
            throw new IndexOutOfBoundsException();
        }
        if (what < 0 || what > 1) {
            throw new IllegalArgumentException();
        }
        return now.past.get(slot)[what];
    }

    private boolean possible(int slot, int target, int[] made, boolean withTurns) {
        int team = now.targets.get(target)[TEAM];
        return canObserve(target, slot) && made[target] < now.targets.get(target)[WANTED]
                && (withTurns ? isInTurn(team, made) : !now.waived[team]);
    }

    // ---- plans

    /** All plans; each gives the slots from the present one on a target, or -1. */
    List<int[]> plans(boolean withTurns) {
        List<int[]> all = new ArrayList<>();
        listPlans(now.present, new int[now.slots], now.made.clone(), withTurns, all);
        return all;
    }

    private void listPlans(int slot, int[] plan, int[] made, boolean withTurns, List<int[]> all) {
        if (slot == now.slots) {
            all.add(plan.clone());
            return;
        }
        for (int target = 0; target < now.targets.size(); target++) {
            boolean cloudy = slot == now.present && now.seen == 2;
            if (!cloudy && possible(slot, target, made, withTurns)) {
                plan[slot] = target;
                made[target]++;
                listPlans(slot + 1, plan, made, withTurns, all);
                made[target]--;
            }
        }
        plan[slot] = -1;
        listPlans(slot + 1, plan, made, withTurns, all);
    }

    private long valueOf(int[] plan) {
        long sum = 0;
        for (int slot = now.present; slot < now.slots; slot++) {
            sum += plan[slot] < 0 ? 0 : now.targets.get(plan[slot])[VALUE] * oddsIn(slot);
        }
        return sum;
    }

    private long oddsIn(int slot) {
        if (slot == now.present && now.seen != 0) {
            return now.seen == 1 ? 1_000_000 : 0;
        }
        return clearOdds(slot);
    }

    private int exposuresOf(int[] plan) {
        int sum = 0;
        for (int slot = now.present; slot < now.slots; slot++) {
            sum += plan[slot] < 0 ? 0 : 1;
        }
        return sum;
    }

    /** The plans are listed in the order in which they are compared, so the first best one counts. */
    private int[] bestPlan(boolean withTurns) {
        int[] best = null;
        for (int[] plan : plans(withTurns)) {
            best = best == null || valueOf(plan) > valueOf(best) ? plan : best;
        }
        return best;
    }

    long planValue() {
        return valueOf(bestPlan(true));
    }

    long planned(int slot) {
        needSlotAhead(slot);
        return bestPlan(true)[slot];
    }

    long planValueWith(int slot, int target) {
        needSlotAhead(slot);
        needTarget(target);
        long most = -1;
        for (int[] plan : plans(true)) {
            most = plan[slot] == target ? Math.max(most, valueOf(plan)) : most;
        }
        if (most < 0) {
            throw new NoSuchElementException();
        }
        return most;
    }

    long planCount() {
        long most = planValue();
        return plans(true).stream().filter(plan -> valueOf(plan) == most).count();
    }

    long worth(int target) {
        needTarget(target);
        long most = 0;
        for (int[] plan : plans(true)) {
            boolean without = true;
            for (int slot = now.present; slot < now.slots; slot++) {
                without &= plan[slot] != target;
            }
            most = without ? Math.max(most, valueOf(plan)) : most;
        }
        return planValue() - most;
    }

    long priceOfTurns() {
        return valueOf(bestPlan(false)) - valueOf(bestPlan(true));
    }

    long mostExposures(boolean withTurns) {
        return plans(withTurns).stream().mapToInt(this::exposuresOf).max().getAsInt();
    }

    private int greedyTarget(int slot, int[] made) {
        int best = -1;
        for (int target = now.targets.size() - 1; target >= 0; target--) {
            if (possible(slot, target, made, true) && (best < 0
                    || now.targets.get(target)[VALUE] >= now.targets.get(best)[VALUE])) {
                best = target;
            }
        }
        return best;
    }

    long greedyValue() {
        int[] made = now.made.clone();
        int[] plan = new int[now.slots];
        for (int slot = now.present; slot < now.slots; slot++) {
            boolean cloudy = slot == now.present && now.seen == 2;
            plan[slot] = cloudy ? -1 : greedyTarget(slot, made);
            if (plan[slot] >= 0) {
                made[plan[slot]]++;
            }
        }
        return valueOf(plan);
    }

    // ---- decisions

    private final Map<String, Long> means = new HashMap<>();

    /** The M of section 6; kind is "value", "number3", "finish3" or "greedy". */
    private long mean(String kind, int slot, int sky, int[] made) {
        String key = kind + slot + sky + java.util.Arrays.toString(made);
        Long known = means.get(key);
        if (known == null) {
            known = freshMean(kind, slot, sky, made);
            means.put(key, known);
        }
        return known;
    }

    private long freshMean(String kind, int slot, int sky, int[] made) {
        if (slot == now.slots) {
            return atEnd(kind, made);
        }
        if (sky == 2) {
            return following(kind, slot, sky, made);
        }
        int choice = kind.equals("greedy") ? greedyTarget(slot, made) : decide(slot, made);
        return choice < 0 ? following(kind, slot, sky, made) : withExposure(kind, slot, made, choice);
    }

    private long atEnd(String kind, int[] made) {
        if (!kind.startsWith("finish")) {
            return 0;
        }
        int target = Integer.parseInt(kind.substring(6));
        return made[target] == now.targets.get(target)[WANTED] ? 1_000_000 : 0;
    }

    private long following(String kind, int slot, int sky, int[] made) {
        if (slot + 1 == now.slots) {
            return atEnd(kind, made);
        }
        int p = now.sky[sky];
        return (p * mean(kind, slot + 1, 1, made) + (100 - p) * mean(kind, slot + 1, 2, made)) / 100;
    }

    private long withExposure(String kind, int slot, int[] made, int target) {
        int[] more = made.clone();
        more[target]++;
        long gain = kind.equals("number" + target) ? 1_000_000 : 0;
        if (kind.equals("value") || kind.equals("greedy")) {
            gain = 1_000_000L * now.targets.get(target)[VALUE];
        }
        return gain + following(kind, slot, 1, more);
    }

    private int decide(int slot, int[] made) {
        long most = following("value", slot, 1, made);
        for (int target = 0; target < now.targets.size(); target++) {
            if (possible(slot, target, made, true)) {
                most = Math.max(most, withExposure("value", slot, made, target));
            }
        }
        for (int target = 0; target < now.targets.size(); target++) {
            if (possible(slot, target, made, true)
                    && withExposure("value", slot, made, target) == most) {
                return target;
            }
        }
        return -1;
    }

    private long meanNow(String kind) {
        means.clear();
        if (now.present == now.slots) {
            return atEnd(kind, now.made);
        }
        if (now.seen != 0) {
            return mean(kind, now.present, now.seen, now.made);
        }
        long p = now.sky[0];
        if (now.present > 0) {
            int last = now.past.get(now.present - 1)[1];
            p = last == 0 ? clearOdds(now.present) / 10_000 : now.sky[last];
        }
        return (p * mean(kind, now.present, 1, now.made)
                + (100 - p) * mean(kind, now.present, 2, now.made)) / 100;
    }

    long meanValue() {
        return meanNow("value");
    }

    long meanValueOf(int target) {
        needTarget(target);
        needPossibleNow(target);
        means.clear();
        return withExposure("value", now.present, now.made, target);
    }

    long decision() {
        if (now.seen == 0) {
            throw new IllegalStateException();
        }
        means.clear();
        return now.seen == 2 ? -1 : decide(now.present, now.made);
    }

    long meanExposures(int target) {
        needTarget(target);
        return meanNow("number" + target);
    }

    long finishOdds(int target) {
        needTarget(target);
        return meanNow("finish" + target);
    }

    long greedyMean() {
        return meanNow("greedy");
    }

    long worthOfClear() {
        if (now.present == now.slots) {
            throw new IllegalStateException();
        }
        means.clear();
        return mean("value", now.present, 1, now.made) - mean("value", now.present, 2, now.made);
    }

    long undo() {
        if (before.isEmpty()) {
            throw new IllegalStateException();
        }
        now = before.remove(before.size() - 1);
        return before.size();
    }

    // ---- what the calls share

    private void remember() {
        before.add(now.copy());
        if (before.size() > 8) {
            before.remove(0);
        }
    }

    private void needTarget(int target) {
        if (target < 0 || target >= now.targets.size()) {
            throw new IndexOutOfBoundsException();
        }
    }

    private void needSlot(int slot) {
        if (slot < 0 || slot >= now.slots) {
            throw new IndexOutOfBoundsException();
        }
    }

    private void needSlotAhead(int slot) {
        needSlot(slot);
        if (slot < now.present) {
            throw new IndexOutOfBoundsException();
        }
    }

    private void needTeam(int team) {
        if (team < 0 || team > 3) {
            throw new IndexOutOfBoundsException();
        }
    }

    private void needPossibleNow(int target) {
        if (now.seen != 1 || !possible(now.present, target, now.made, true)) {
            throw new IllegalStateException();
        }
    }
}
