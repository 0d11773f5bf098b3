import java.util.Arrays;
import java.util.NoSuchElementException;

/**
 * A planner for a telescope night: targets rise and set and keep away from the moon, teams take
 * turns that differ by one at most, clouds come and go by odds; plans that are best in the mean,
 * decisions that are best at each moment, and the night as it goes on.
 */
public final class TelescopeNight {
    public static final int NONE = -1;
    public static final int SYNTAX_ERROR = -2;
    public static final int VALUE_ERROR = -3;
    public static final int TOO_MANY = -4;

    private static final int MOST_SLOTS = 12;
    private static final int MOST_TARGETS = 6;
    private static final int TEAMS = 4;
    private static final int MOST_CHANGES = 8;
    private static final int CERTAIN = 1000000;
    private static final int TURN_BITS = 8;
    private static final int MORE_THAN_ALL_TURNS = 256;
    private static final int MADE_BITS = 2;

    private static final int SKY_UNKNOWN = 0;
    private static final int SKY_CLEAR = 1;
    private static final int SKY_CLOUDY = 2;

    private final Reader reader;
    private final Night draft;
    private final Night night;
    private final Progress progress;
    private final History history;
    private final Reach turnReach;
    private final Reach freeReach;
    private final Plans plans;
    private final Decisions decisions;
    private int errorAt;

    public TelescopeNight() {
        Night madeNight = new Night();
        Progress madeProgress = new Progress();
        Reach withTurns = new Reach(madeNight, madeProgress, true);
        Reach withoutTurns = new Reach(madeNight, madeProgress, false);
        reader = new Reader();
        draft = new Night();
        night = madeNight;
        progress = madeProgress;
        history = new History();
        turnReach = withTurns;
        freeReach = withoutTurns;
        plans = new Plans(madeNight, madeProgress, withTurns, withoutTurns);
        decisions = new Decisions(madeNight, madeProgress, withTurns);
        errorAt = NONE;
    }

    // ---- setup

    public int append(int a, int b, int c, int d, int e) throws IllegalStateException {
        if (!reader.hasRoom()) {
            throw new IllegalStateException("the text buffer is full");
        }
        reader.add(a);
        reader.add(b);
        reader.add(c);
        reader.add(d);
        reader.add(e);
        return reader.filled;
    }

    public int load(int length) throws IllegalArgumentException {
        if (length < 0 || length > reader.filled) {
            throw new IllegalArgumentException("the length is out of range");
        }
        boolean good = reader.read(length, draft);
        errorAt = reader.errorAt;
        if (!good) {
            return reader.error;
        }
        remember();
        night.copyFrom(draft);
        progress.begin();
        return night.targets;
    }

    public int errorPosition() {
        return errorAt;
    }

    public int count(int what) throws IllegalArgumentException {
        switch (what) {
            case 0:
                return night.slots;
            case 1:
                return night.targets;
            case 2:
                return night.teams;
            case 3:
                return progress.present;
            case 4:
                return progress.points;
            case 5:
                return progress.sky;
            case 6:
                return allMade();
            default:
                throw new IllegalArgumentException("there is no such number");
        }
    }

    private int allMade() {
        int all = 0;
        for (int target = 0; target < night.targets; target++) {
            all += madeOf(progress.made, target);
        }
        return all;
    }

    // ---- the sky

    public int height(int target, int slot) throws IndexOutOfBoundsException {
        checkTarget(target);
        checkSlot(slot);
        return night.targetHeight(target, slot);
    }

    public int moonHeight(int slot) throws IndexOutOfBoundsException {
        checkSlot(slot);
        return night.heightOfMoon(slot);
    }

    public int moonDistance(int target, int slot) throws IndexOutOfBoundsException {
        checkTarget(target);
        checkSlot(slot);
        return night.distanceToMoon(target, slot);
    }

    public int window(int target) throws IndexOutOfBoundsException {
        checkTarget(target);
        return night.slotsOf(target);
    }

    public int observable(int slot) throws IndexOutOfBoundsException {
        checkSlot(slot);
        return night.targetsIn(slot);
    }

    public int highestSlot(int target) throws IndexOutOfBoundsException, NoSuchElementException {
        checkTarget(target);
        int found = NONE;
        int highest = 0;
        for (int slot = 0; slot < night.slots; slot++) {
            int now = night.targetHeight(target, slot);
            if (night.isSeen(target, slot) && (found == NONE || now > highest)) {
                found = slot;
                highest = now;
            }
        }
        if (found == NONE) {
            throw new NoSuchElementException("the target can be observed in no slot");
        }
        return found;
    }

    public int latestStart(int target) throws IndexOutOfBoundsException, NoSuchElementException {
        checkTarget(target);
        int missing = night.number(target, Night.WANTED) - madeOf(progress.made, target);
        if (missing <= 0) {
            return night.slots;
        }
        for (int slot = night.slots - 1; slot >= progress.present; slot--) {
            if (night.isSeen(target, slot)) {
                missing--;
            }
            if (missing == 0) {
                return slot;
            }
        }
        throw new NoSuchElementException("the target cannot be observed often enough");
    }

    public int clearOdds(int slot) throws IndexOutOfBoundsException {
        checkSlot(slot);
        return night.oddsIn(slot);
    }

    public int clearRun(int from, int to)
            throws IndexOutOfBoundsException, IllegalArgumentException {
        checkSlot(from);
        checkSlot(to);
        if (to < from) {
            throw new IllegalArgumentException("the last slot is in front of the first one");
        }
        int odds = night.oddsIn(from);
        for (int slot = from; slot < to; slot++) {
            odds = odds * night.percents[Night.BEHIND_CLEAR] / 100;
        }
        return odds;
    }

    // ---- the night as it goes on

    public int look(boolean clear) throws IllegalStateException {
        if (isOver() || progress.sky != SKY_UNKNOWN) {
            throw new IllegalStateException("there is no sky to look at");
        }
        remember();
        progress.sky = clear ? SKY_CLEAR : SKY_CLOUDY;
        return possibleNow();
    }

    public int expose(int target) throws IndexOutOfBoundsException, IllegalStateException {
        checkTarget(target);
        checkPossible(target);
        remember();
        progress.points += night.number(target, Night.VALUE);
        progress.made += oneOf(target);
        progress.moveOn(target);
        return progress.points;
    }

    public int pass() throws IllegalStateException {
        if (isOver()) {
            throw new IllegalStateException("the night is over");
        }
        remember();
        progress.moveOn(NONE);
        return progress.present;
    }

    public int waive(int team) throws IndexOutOfBoundsException, IllegalStateException {
        checkTeam(team);
        if (!has(night.teams, team) || has(progress.waived, team)) {
            throw new IllegalStateException("the team has no turns to waive");
        }
        remember();
        progress.waived |= 1 << team;
        return night.teamsInTurn(progress.made, progress.waived);
    }

    public void restart() {
        remember();
        progress.begin();
    }

    public int inTurn() {
        return night.teamsInTurn(progress.made, progress.waived);
    }

    public int turnsOf(int team) throws IndexOutOfBoundsException {
        checkTeam(team);
        return turnsIn(night.turnCounts(progress.made), team);
    }

    public int exposures(int target) throws IndexOutOfBoundsException {
        checkTarget(target);
        return madeOf(progress.made, target);
    }

    public int past(int slot, int what)
            throws IndexOutOfBoundsException, IllegalArgumentException {
        checkSlot(slot);
        if (slot >= progress.present) {
            throw new IndexOutOfBoundsException("the slot is not over");
        }
        if (what != 0 && what != 1) {
            throw new IllegalArgumentException("there is no such number");
        }
        return what == 0 ? progress.pastTargets[slot] : progress.pastSkies[slot];
    }

    // ---- plans

    public long planValue() {
        plans.findBest();
        return plans.bestValue;
    }

    public int planned(int slot) throws IndexOutOfBoundsException {
        checkSlotAhead(slot);
        plans.findBest();
        return plans.targetOfBest(slot);
    }

    public long planValueWith(int slot, int target)
            throws IndexOutOfBoundsException, NoSuchElementException {
        checkSlotAhead(slot);
        checkTarget(target);
        long most = plans.most(Plans.WITH, slot, target);
        if (most == Plans.IMPOSSIBLE) {
            throw new NoSuchElementException("no plan gives the slot this target");
        }
        return most;
    }

    public long planCount() {
        plans.findBest();
        return plans.bestWays;
    }

    public long worth(int target) throws IndexOutOfBoundsException {
        checkTarget(target);
        plans.findBest();
        return plans.bestValue - plans.most(Plans.WITHOUT, NONE, target);
    }

    public long priceOfTurns() {
        plans.findBest();
        return plans.most(Plans.FREE, NONE, NONE) - plans.bestValue;
    }

    public int mostExposures(boolean withTurns) {
        return (int) plans.most(withTurns ? Plans.NUMBER : Plans.FREE_NUMBER, NONE, NONE);
    }

    public long greedyValue() {
        return plans.valueOfGreedy();
    }

    // ---- decisions

    public long meanValue() {
        return decisions.bestMean();
    }

    public long meanValueOf(int target) throws IndexOutOfBoundsException, IllegalStateException {
        checkTarget(target);
        checkPossible(target);
        return decisions.valueNow(target);
    }

    public int decision() throws IllegalStateException {
        if (progress.sky == SKY_UNKNOWN) {
            throw new IllegalStateException("the sky is not known");
        }
        return progress.sky == SKY_CLEAR ? decisions.choiceNow() : NONE;
    }

    public long meanExposures(int target) throws IndexOutOfBoundsException {
        checkTarget(target);
        return decisions.followedMean(Decisions.NUMBER, target);
    }

    public long finishOdds(int target) throws IndexOutOfBoundsException {
        checkTarget(target);
        return decisions.followedMean(Decisions.FINISH, target);
    }

    public long greedyMean() {
        return decisions.followedMean(Decisions.GREEDY, NONE);
    }

    public long worthOfClear() throws IllegalStateException {
        if (isOver()) {
            throw new IllegalStateException("the night is over");
        }
        return decisions.clearOverCloudy();
    }

    public int undo() throws IllegalStateException {
        if (history.size == 0) {
            throw new IllegalStateException("there is no change to undo");
        }
        history.takeBack(night, progress);
        forgetAnswers();
        return history.size;
    }

    // ---- what the calls share

    private void remember() {
        history.keep(night, progress);
        forgetAnswers();
    }

    private void forgetAnswers() {
        turnReach.forget();
        freeReach.forget();
        plans.forget();
        decisions.forget();
    }

    private boolean isOver() {
        return progress.present >= night.slots;
    }

    private int possibleNow() {
        if (isOver() || progress.sky != SKY_CLEAR) {
            return 0;
        }
        int inTurnNow = night.teamsInTurn(progress.made, progress.waived);
        return night.targetsIn(progress.present) & night.wanting(progress.made, inTurnNow);
    }

    private void checkPossible(int target) {
        if (!has(possibleNow(), target)) {
            throw new IllegalStateException("an exposure of this target cannot be made");
        }
    }

    private void checkTarget(int target) {
        if (target < 0 || target >= night.targets) {
            throw new IndexOutOfBoundsException("there is no such target");
        }
    }

    private void checkSlot(int slot) {
        if (slot < 0 || slot >= night.slots) {
            throw new IndexOutOfBoundsException("there is no such slot");
        }
    }

    private void checkSlotAhead(int slot) {
        checkSlot(slot);
        if (slot < progress.present) {
            throw new IndexOutOfBoundsException("the slot is over");
        }
    }

    private void checkTeam(int team) {
        if (team < 0 || team >= TEAMS) {
            throw new IndexOutOfBoundsException("there is no such team");
        }
    }

    private static boolean has(int mask, int bit) {
        return (mask >> bit & 1) != 0;
    }

    // The exposures made of all targets are one number, two bits for each target (3 is the most).

    private static int madeOf(int made, int target) {
        return made >> MADE_BITS * target & 3;
    }

    private static int oneOf(int target) {
        return 1 << MADE_BITS * target;
    }

    // The turns of all teams are one number, eight bits for each team (18 is the most).

    private static int turnsIn(int counts, int team) {
        return counts >> TURN_BITS * team & 255;
    }

    private static long mixed(int percent, long clear, long cloudy) {
        return (percent * clear + (100 - percent) * cloudy) / 100;
    }

    /** A night as its text tells it, with what follows from these numbers alone. */
    private static final class Night {
        static final int TEAM = 0;
        static final int PEAK = 1;
        static final int CURVE = 2;
        static final int TRANSIT = 3;
        static final int LEAST_HEIGHT = 4;
        static final int AZIMUTH = 5;
        static final int DISTANCE = 6;
        static final int WANTED = 7;
        static final int VALUE = 8;
        static final int NUMBERS = 9;

        static final int MOON_PEAK = 0;
        static final int MOON_CURVE = 1;
        static final int MOON_TRANSIT = 2;
        static final int MOON_AZIMUTH = 3;
        static final int MOON_SPEED = 4;
        static final int MOON_BRIGHTNESS = 5;
        static final int MOON_NUMBERS = 6;

        static final int FIRST = 0;
        static final int BEHIND_CLEAR = 1;
        static final int BEHIND_CLOUDY = 2;
        static final int PERCENTS = 3;

        int slots;
        int targets;
        int teams;
        final int[] moon = new int[MOON_NUMBERS];
        final int[] percents = new int[PERCENTS];
        final int[] numbers = new int[MOST_TARGETS * NUMBERS];
        final int[] seen = new int[MOST_SLOTS];
        final int[] odds = new int[MOST_SLOTS];

        Night() {
            setDefaults();
            settle();
        }

        void setDefaults() {
            slots = 6;
            targets = 0;
            Arrays.fill(moon, 0);
            moon[MOON_CURVE] = 1;
            moon[MOON_TRANSIT] = -10;
            percents[FIRST] = 50;
            percents[BEHIND_CLEAR] = 80;
            percents[BEHIND_CLOUDY] = 30;
        }

        void copyFrom(Night other) {
            slots = other.slots;
            targets = other.targets;
            teams = other.teams;
            System.arraycopy(other.moon, 0, moon, 0, MOON_NUMBERS);
            System.arraycopy(other.percents, 0, percents, 0, PERCENTS);
            System.arraycopy(other.numbers, 0, numbers, 0, MOST_TARGETS * NUMBERS);
            System.arraycopy(other.seen, 0, seen, 0, MOST_SLOTS);
            System.arraycopy(other.odds, 0, odds, 0, MOST_SLOTS);
        }

        /** Works out once what the calls ask for over and over. */
        void settle() {
            teams = 0;
            for (int target = 0; target < targets; target++) {
                teams |= 1 << number(target, TEAM);
            }
            int clear = 10000 * percents[FIRST];
            for (int slot = 0; slot < slots && slot < MOST_SLOTS; slot++) {
                seen[slot] = targetsSeenIn(slot);
                odds[slot] = clear;
                clear = (clear * percents[BEHIND_CLEAR]
                        + (CERTAIN - clear) * percents[BEHIND_CLOUDY]) / 100;
            }
        }

        private int targetsSeenIn(int slot) {
            int mask = 0;
            for (int target = 0; target < targets; target++) {
                if (canBeSeen(target, slot)) {
                    mask |= 1 << target;
                }
            }
            return mask;
        }

        private boolean canBeSeen(int target, int slot) {
            if (targetHeight(target, slot) < number(target, LEAST_HEIGHT)) {
                return false;
            }
            int least = number(target, DISTANCE) * moon[MOON_BRIGHTNESS] / 100;
            return heightOfMoon(slot) <= 0 || distanceToMoon(target, slot) >= least;
        }

        int number(int target, int what) {
            int at = target * NUMBERS + what;
            return at >= 0 && at < numbers.length ? numbers[at] : 0;
        }

        int targetHeight(int target, int slot) {
            int away = slot - number(target, TRANSIT);
            return number(target, PEAK) - number(target, CURVE) * away * away;
        }

        int heightOfMoon(int slot) {
            int away = slot - moon[MOON_TRANSIT];
            return moon[MOON_PEAK] - moon[MOON_CURVE] * away * away;
        }

        int distanceToMoon(int target, int slot) {
            int ofTarget = (number(target, AZIMUTH) + 15 * slot) % 360;
            int ofMoon = (moon[MOON_AZIMUTH] + moon[MOON_SPEED] * slot) % 360;
            int apart = Math.abs(ofTarget - ofMoon);
            return Math.min(apart, 360 - apart);
        }

        boolean isSeen(int target, int slot) {
            return has(targetsIn(slot), target);
        }

        int targetsIn(int slot) {
            return slot >= 0 && slot < slots && slot < MOST_SLOTS ? seen[slot] : 0;
        }

        int oddsIn(int slot) {
            return slot >= 0 && slot < slots && slot < MOST_SLOTS ? odds[slot] : 0;
        }

        int slotsOf(int target) {
            int mask = 0;
            for (int slot = 0; slot < slots; slot++) {
                if (isSeen(target, slot)) {
                    mask |= 1 << slot;
                }
            }
            return mask;
        }

        int turnCounts(int made) {
            int counts = 0;
            for (int target = 0; target < targets; target++) {
                counts += madeOf(made, target) << TURN_BITS * number(target, TEAM);
            }
            return counts;
        }

        int teamsInTurn(int made, int waived) {
            int counts = turnCounts(made);
            int taking = teams & ~waived;
            int fewest = MORE_THAN_ALL_TURNS;
            int mask = 0;
            for (int team = 0; team < TEAMS; team++) {
                int turns = turnsIn(counts, team);
                if (has(taking, team) && turns <= fewest) {
                    mask = turns < fewest ? 1 << team : mask | 1 << team;
                    fewest = turns;
                }
            }
            return mask;
        }

        /** The targets of some teams that have fewer exposures than wanted. */
        int wanting(int made, int ofTeams) {
            int mask = 0;
            for (int target = 0; target < targets; target++) {
                if (madeOf(made, target) < number(target, WANTED)
                        && has(ofTeams, number(target, TEAM))) {
                    mask |= 1 << target;
                }
            }
            return mask;
        }

        /** The target with the greatest value, of several the lowest one. */
        int dearest(int mask) {
            int found = NONE;
            for (int target = 0; target < targets; target++) {
                if (has(mask, target)
                        && (found == NONE || number(target, VALUE) > number(found, VALUE))) {
                    found = target;
                }
            }
            return found;
        }
    }

    /** How far the night has come, and what was done in it. */
    private static final class Progress {
        int present;
        int sky;
        int points;
        int waived;
        int made;
        final int[] pastTargets = new int[MOST_SLOTS];
        final int[] pastSkies = new int[MOST_SLOTS];

        void begin() {
            present = 0;
            sky = SKY_UNKNOWN;
            points = 0;
            waived = 0;
            made = 0;
        }

        void copyFrom(Progress other) {
            present = other.present;
            sky = other.sky;
            points = other.points;
            waived = other.waived;
            made = other.made;
            System.arraycopy(other.pastTargets, 0, pastTargets, 0, MOST_SLOTS);
            System.arraycopy(other.pastSkies, 0, pastSkies, 0, MOST_SLOTS);
        }

        void moveOn(int target) {
            if (present < MOST_SLOTS) {
                pastTargets[present] = target;
                pastSkies[present] = sky;
                present++;
            }
            sky = SKY_UNKNOWN;
        }

        int skyBefore() {
            return present > 0 ? pastSkies[present - 1] : SKY_UNKNOWN;
        }
    }

    /** The situations in front of the latest changes, in a ring. */
    private static final class History {
        private final Night[] nights = new Night[MOST_CHANGES];
        private final Progress[] progresses = new Progress[MOST_CHANGES];
        private int next;
        int size;

        History() {
            for (int i = 0; i < MOST_CHANGES; i++) {
                nights[i] = new Night();
                progresses[i] = new Progress();
            }
        }

        void keep(Night night, Progress progress) {
            nights[next].copyFrom(night);
            progresses[next].copyFrom(progress);
            next = (next + 1) % MOST_CHANGES;
            size = Math.min(size + 1, MOST_CHANGES);
        }

        void takeBack(Night night, Progress progress) {
            next = (next + MOST_CHANGES - 1) % MOST_CHANGES;
            size--;
            night.copyFrom(nights[next]);
            progress.copyFrom(progresses[next]);
        }
    }

    /** The text buffer, and how its text is read. */
    private static final class Reader {
        private static final int MOST_BYTES = 500;
        private static final int BYTES_AT_ONCE = 20;
        private static final int NO_ERROR = 0;
        private static final int ABOVE_ALL_RANGES = 100000;

        // A number may have a minus sign just where its range goes below 0.
        private static final int[] NIGHT_LOW = {1};
        private static final int[] NIGHT_HIGH = {12};
        private static final int[] MOON_LOW = {0, 0, -10, 0, 0, 0};
        private static final int[] MOON_HIGH = {90, 30, 25, 359, 359, 100};
        private static final int[] SKY_LOW = {0, 0, 0};
        private static final int[] SKY_HIGH = {100, 100, 100};
        private static final int[] TARGET_LOW = {0, 0, 0, -10, 0, 0, 0, 1, 1};
        private static final int[] TARGET_HIGH = {3, 90, 30, 25, 89, 359, 180, 3, 1000};

        private final int[] bytes = new int[MOST_BYTES];
        private final int[] values = new int[Night.NUMBERS];
        int filled;
        private int end;
        private int at;
        private int wordStart;
        private boolean hasMoon;
        private boolean hasSky;
        int error;
        int errorAt = NONE;

        boolean hasRoom() {
            return filled + BYTES_AT_ONCE <= MOST_BYTES;
        }

        void add(int four) {
            for (int shift = 24; shift >= 0 && filled < MOST_BYTES; shift -= 8) {
                bytes[filled] = four >> shift & 255;
                filled++;
            }
        }

        /** Reads a night into the draft and empties the buffer; tells whether it has no error. */
        boolean read(int length, Night draft) {
            end = Math.min(length, filled);
            at = 0;
            hasMoon = false;
            hasSky = false;
            error = NO_ERROR;
            errorAt = NONE;
            filled = 0;
            draft.setDefaults();
            readHead(draft);
            for (int i = 0; i < MOST_BYTES && error == NO_ERROR && !atEnd(); i++) {
                readPart(draft);
            }
            draft.settle();
            return error == NO_ERROR;
        }

        private void readHead(Night draft) {
            takeWord();
            if (!wordIs("night")) {
                fail(SYNTAX_ERROR, wordStart);
            } else if (takeNumbers(NIGHT_LOW, NIGHT_HIGH)) {
                draft.slots = values[0];
            }
        }

        private void readPart(Night draft) {
            takeWord();
            if (wordIs("moon") && !hasMoon) {
                hasMoon = true;
                if (takeNumbers(MOON_LOW, MOON_HIGH)) {
                    System.arraycopy(values, 0, draft.moon, 0, Night.MOON_NUMBERS);
                }
            } else if (wordIs("sky") && !hasSky) {
                hasSky = true;
                if (takeNumbers(SKY_LOW, SKY_HIGH)) {
                    System.arraycopy(values, 0, draft.percents, 0, Night.PERCENTS);
                }
            } else if (wordIs("target")) {
                readTarget(draft);
            } else {
                fail(SYNTAX_ERROR, wordStart);
            }
        }

        private void readTarget(Night draft) {
            if (draft.targets >= MOST_TARGETS) {
                fail(TOO_MANY, wordStart);
            } else if (takeNumbers(TARGET_LOW, TARGET_HIGH)) {
                int from = draft.targets * Night.NUMBERS;
                System.arraycopy(values, 0, draft.numbers, from, Night.NUMBERS);
                draft.targets++;
            }
        }

        private void fail(int code, int position) {
            error = code;
            errorAt = position;
        }

        private boolean atEnd() {
            skipSpaces();
            return at >= end;
        }

        private void skipSpaces() {
            while (at < end && bytes[at] == ' ') {
                at++;
            }
        }

        /** Takes the longest sequence of letters, which may be empty. */
        private void takeWord() {
            skipSpaces();
            wordStart = at;
            while (at < end && bytes[at] >= 'a' && bytes[at] <= 'z') {
                at++;
            }
        }

        private boolean wordIs(String word) {
            if (at - wordStart != word.length()) {
                return false;
            }
            for (int i = 0; i < word.length(); i++) {
                if (bytes[wordStart + i] != word.charAt(i)) {
                    return false;
                }
            }
            return true;
        }

        /** Takes the numbers of a part and the semicolon behind them. */
        private boolean takeNumbers(int[] low, int[] high) {
            for (int i = 0; i < low.length && i < high.length && i < values.length; i++) {
                if (!takeNumber(i, low[i], high[i])) {
                    return false;
                }
            }
            skipSpaces();
            if (at >= end || bytes[at] != ';') {
                fail(SYNTAX_ERROR, at);
                return false;
            }
            at++;
            return true;
        }

        private boolean takeNumber(int index, int low, int high) {
            skipSpaces();
            int start = at;
            boolean minus = low < 0 && at < end && bytes[at] == '-';
            if (minus) {
                at++;
            }
            if (at >= end || !isDigit(bytes[at])) {
                fail(SYNTAX_ERROR, start);
                return false;
            }
            int value = minus ? -takeDigits() : takeDigits();
            if (value < low || value > high) {
                fail(VALUE_ERROR, start);
                return false;
            }
            values[index] = value;
            return true;
        }

        private int takeDigits() {
            int value = 0;
            while (at < end && isDigit(bytes[at])) {
                // A number that is far too great already stays so, instead of wrapping around.
                value = value >= ABOVE_ALL_RANGES ? value : 10 * value + bytes[at] - '0';
                at++;
            }
            return value;
        }

        private static boolean isDigit(int sign) {
            return sign >= '0' && sign <= '9';
        }
    }

    /**
     * The numbers of exposures that can come about from the present situation on. As each slot may
     * pass without an exposure, what can have come about in front of a slot can also have come
     * about in front of each later one.
     */
    private static final class Reach {
        private static final int NEVER = MOST_SLOTS + 1;

        private final Night night;
        private final Progress progress;
        private final boolean withTurns;
        private boolean known;
        int span;
        int size;
        int[] states = new int[0];
        private int[] wanting = new int[0];
        private int[] earliest = new int[0];

        Reach(Night night, Progress progress, boolean withTurns) {
            this.night = night;
            this.progress = progress;
            this.withTurns = withTurns;
        }

        void forget() {
            known = false;
        }

        void update() {
            if (known) {
                return;
            }
            known = true;
            size = 0;
            makeRoom();
            Arrays.fill(earliest, NEVER);
            if (progress.made < span) {
                earliest[progress.made] = progress.present;
            }
            // An exposure makes the number greater, so one way through them finds them all.
            for (int made = progress.made; made < span; made++) {
                if (earliest[made] != NEVER) {
                    states[size] = made;
                    size++;
                    int teams = withTurns
                            ? night.teamsInTurn(made, progress.waived) : ~progress.waived;
                    wanting[made] = night.wanting(made, teams);
                    reachFrom(made);
                }
            }
        }

        private void makeRoom() {
            span = oneOf(night.targets);
            if (states.length < span) {
                states = new int[span];
                wanting = new int[span];
                earliest = new int[span];
            }
        }

        private void reachFrom(int made) {
            for (int target = 0; target < night.targets; target++) {
                int next = made + oneOf(target);
                if (has(wanting[made], target) && next < span) {
                    earliest[next] = Math.min(earliest[next], behindNext(target, earliest[made]));
                }
            }
        }

        private int behindNext(int target, int from) {
            for (int slot = from; slot < night.slots; slot++) {
                if (has(night.targetsIn(slot), target)) {
                    return slot + 1;
                }
            }
            return NEVER;
        }

        boolean holds(int made, int slot) {
            return earliest[made] <= slot;
        }

        /** The targets of which an exposure is possible if the sky is clear. */
        int possible(int made, int slot) {
            return night.targetsIn(slot) & wanting[made];
        }
    }

    /**
     * The best plans, found slot by slot from the end of the night back to the present slot. The
     * rows tell of the plans from one slot on, for each number of exposures made in front of it;
     * an exposure only leads to a greater number, so a row can be changed in place upwards.
     */
    private static final class Plans {
        static final int ANY = 0;
        static final int WITH = 1;
        static final int WITHOUT = 2;
        static final int FREE = 3;
        static final int NUMBER = 4;
        static final int FREE_NUMBER = 5;
        static final long IMPOSSIBLE = -1;

        // A plan is one number, three bits for each slot.
        private static final int PLAN_BITS = 3;
        private static final int NO_TARGET = 7;

        private final Night night;
        private final Progress progress;
        private final Reach turnReach;
        private final Reach freeReach;
        private int kind;
        private int chosenSlot;
        private int chosenTarget;
        private long[] values = new long[0];
        private long[] ways = new long[0];
        private long[] firsts = new long[0];
        private boolean known;
        long bestValue;
        long bestWays;
        private long bestFirst;

        Plans(Night night, Progress progress, Reach turnReach, Reach freeReach) {
            this.night = night;
            this.progress = progress;
            this.turnReach = turnReach;
            this.freeReach = freeReach;
        }

        void forget() {
            known = false;
        }

        void findBest() {
            if (!known) {
                bestValue = most(ANY, NONE, NONE);
                bestWays = ways[progress.made];
                bestFirst = firsts[progress.made];
                known = true;
            }
        }

        int targetOfBest(int slot) {
            int target = (int) (bestFirst >> PLAN_BITS * slot) & NO_TARGET;
            return target == NO_TARGET ? NONE : target;
        }

        /** The most that a plan of some kind reaches; the slot and the target matter for WITH. */
        long most(int ofKind, int slot, int target) {
            kind = ofKind;
            chosenSlot = slot;
            chosenTarget = target;
            Reach reach = kind == FREE || kind == FREE_NUMBER ? freeReach : turnReach;
            reach.update();
            makeRoom(reach.span);
            for (int i = 0; i < reach.size; i++) {
                put(reach.states[i], 0, 1, 0);
            }
            for (int now = night.slots - 1; now >= progress.present; now--) {
                stepBack(reach, now);
            }
            return values[progress.made];
        }

        private void makeRoom(int span) {
            if (values.length < span) {
                values = new long[span];
                ways = new long[span];
                firsts = new long[span];
            }
        }

        private void put(int made, long value, long number, long first) {
            values[made] = value;
            ways[made] = number;
            firsts[made] = first;
        }

        private void stepBack(Reach reach, int slot) {
            for (int i = 0; i < reach.size; i++) {
                int made = reach.states[i];
                if (reach.holds(made, slot)) {
                    choose(made, slot, allowed(reach.possible(made, slot), slot));
                }
            }
        }

        private int allowed(int possible, int slot) {
            if (isCloudyNow(slot)) {
                return 0;
            }
            if (kind == WITHOUT) {
                return possible & ~(1 << chosenTarget);
            }
            return isChosen(slot) ? possible & (1 << chosenTarget) : possible;
        }

        private boolean isCloudyNow(int slot) {
            return slot == progress.present && progress.sky == SKY_CLOUDY;
        }

        private boolean isChosen(int slot) {
            return kind == WITH && slot == chosenSlot;
        }

        /** Takes the best of all choices in a slot; none comes last, as it does among equals. */
        private void choose(int made, int slot, int allowed) {
            long most = IMPOSSIBLE;
            long number = 0;
            long first = 0;
            for (int choice = 0; choice <= night.targets; choice++) {
                boolean none = choice == night.targets;
                if (none ? isChosen(slot) : !has(allowed, choice)) {
                    continue;
                }
                int next = none ? made : made + oneOf(choice);
                if (values[next] == IMPOSSIBLE) {
                    continue;
                }
                long value = values[next] + (none ? 0 : gain(choice, slot));
                if (value > most) {
                    most = value;
                    number = 0;
                    first = firsts[next] | (long) (none ? NO_TARGET : choice) << PLAN_BITS * slot;
                }
                if (value == most) {
                    number += ways[next];
                }
            }
            put(made, most, number, first);
        }

        private long gain(int target, int slot) {
            if (kind == NUMBER || kind == FREE_NUMBER) {
                return 1;
            }
            return (long) night.number(target, Night.VALUE) * oddsOf(slot);
        }

        private int oddsOf(int slot) {
            if (slot == progress.present && progress.sky != SKY_UNKNOWN) {
                return progress.sky == SKY_CLEAR ? CERTAIN : 0;
            }
            return night.oddsIn(slot);
        }

        long valueOfGreedy() {
            kind = ANY;
            long sum = 0;
            int made = progress.made;
            for (int slot = progress.present; slot < night.slots; slot++) {
                int inTurnThen = night.teamsInTurn(made, progress.waived);
                int possible = night.targetsIn(slot) & night.wanting(made, inTurnThen);
                int target = isCloudyNow(slot) ? NONE : night.dearest(possible);
                if (target != NONE) {
                    sum += gain(target, slot);
                    made += oneOf(target);
                }
            }
            return sum;
        }
    }

    /** What can be gained from a slot on if it is clear or cloudy, for each number of exposures. */
    private static final class Outlook {
        private final Night night;
        private long[] clear = new long[0];
        private long[] cloudy = new long[0];

        Outlook(Night night) {
            this.night = night;
        }

        void makeRoom(int span) {
            if (clear.length < span) {
                clear = new long[span];
                cloudy = new long[span];
            }
        }

        void put(int made, long ifClear, long ifCloudy) {
            clear[made] = ifClear;
            cloudy[made] = ifCloudy;
        }

        long behindClear(int made) {
            return mixed(night.percents[Night.BEHIND_CLEAR], clear[made], cloudy[made]);
        }

        long behindCloudy(int made) {
            return mixed(night.percents[Night.BEHIND_CLOUDY], clear[made], cloudy[made]);
        }
    }

    /**
     * The mean values, found slot by slot from the end of the night back to the slot behind the
     * present one; the present slot itself is worked out when it is asked for. The best outlook is
     * what the best decisions gain; the followed one is what some decisions gain of another kind.
     */
    private static final class Decisions {
        static final int BEST = 0;
        static final int NUMBER = 1;
        static final int FINISH = 2;
        static final int GREEDY = 3;

        private final Night night;
        private final Progress progress;
        private final Reach reach;
        private final Outlook best;
        private final Outlook followed;
        private int kind;
        private int counted;
        private boolean known;

        Decisions(Night night, Progress progress, Reach reach) {
            this.night = night;
            this.progress = progress;
            this.reach = reach;
            best = new Outlook(night);
            followed = new Outlook(night);
        }

        void forget() {
            known = false;
        }

        long bestMean() {
            prepare(BEST, NONE);
            int made = progress.made;
            if (isOver()) {
                return 0;
            }
            int choice = bestChoice(made, progress.present);
            return meanNow(bestIfClear(made, choice), best.behindCloudy(made));
        }

        /** The mean of what decisions gain of some kind; the target is the one that is counted. */
        long followedMean(int ofKind, int target) {
            prepare(ofKind, target);
            int made = progress.made;
            if (isOver()) {
                return atEnd(made);
            }
            int choice = bestChoice(made, progress.present);
            long ifClear = followedIfClear(made, progress.present, choice);
            return meanNow(ifClear, followed.behindCloudy(made));
        }

        long valueNow(int target) {
            prepare(BEST, NONE);
            return valueOf(progress.made, target);
        }

        int choiceNow() {
            prepare(BEST, NONE);
            return bestChoice(progress.made, progress.present);
        }

        long clearOverCloudy() {
            prepare(BEST, NONE);
            int made = progress.made;
            int choice = bestChoice(made, progress.present);
            return bestIfClear(made, choice) - best.behindCloudy(made);
        }

        private boolean isOver() {
            return progress.present >= night.slots;
        }

        private long meanNow(long ifClear, long ifCloudy) {
            if (progress.sky == SKY_UNKNOWN) {
                return mixed(percentNow(), ifClear, ifCloudy);
            }
            return progress.sky == SKY_CLEAR ? ifClear : ifCloudy;
        }

        private int percentNow() {
            if (progress.present == 0) {
                return night.percents[Night.FIRST];
            }
            int before = progress.skyBefore();
            if (before == SKY_UNKNOWN) {
                return night.oddsIn(progress.present) / 10000;
            }
            return night.percents[before == SKY_CLEAR ? Night.BEHIND_CLEAR : Night.BEHIND_CLOUDY];
        }

        private void prepare(int ofKind, int target) {
            // Each kind works out the best outlook, too, so this one may be there already.
            if (known && ofKind == BEST) {
                return;
            }
            known = true;
            kind = ofKind;
            counted = target;
            reach.update();
            best.makeRoom(reach.span);
            followed.makeRoom(kind == BEST ? 0 : reach.span);
            for (int i = 0; i < reach.size; i++) {
                startAtEnd(reach.states[i]);
            }
            for (int slot = night.slots - 1; slot > progress.present; slot--) {
                stepBack(slot);
            }
        }

        private void startAtEnd(int made) {
            best.put(made, 0, 0);
            if (kind != BEST) {
                followed.put(made, atEnd(made), atEnd(made));
            }
        }

        private void stepBack(int slot) {
            for (int i = 0; i < reach.size; i++) {
                int made = reach.states[i];
                if (!reach.holds(made, slot)) {
                    continue;
                }
                int choice = bestChoice(made, slot);
                best.put(made, bestIfClear(made, choice), best.behindCloudy(made));
                if (kind != BEST) {
                    long ifClear = followedIfClear(made, slot, choice);
                    followed.put(made, ifClear, followed.behindCloudy(made));
                }
            }
        }

        private long atEnd(int made) {
            boolean finished = kind == FINISH
                    && madeOf(made, counted) >= night.number(counted, Night.WANTED);
            return finished ? CERTAIN : 0;
        }

        private long valueOf(int made, int target) {
            long points = night.number(target, Night.VALUE);
            return points * CERTAIN + best.behindClear(made + oneOf(target));
        }

        private int bestChoice(int made, int slot) {
            int possible = reach.possible(made, slot);
            int found = NONE;
            long most = best.behindClear(made);
            for (int target = 0; target < night.targets; target++) {
                if (!has(possible, target)) {
                    continue;
                }
                long value = valueOf(made, target);
                // Among equals an exposure comes before none, but not before a lower target.
                if (value > most || value == most && found == NONE) {
                    found = target;
                    most = value;
                }
            }
            return found;
        }

        private long bestIfClear(int made, int choice) {
            return choice == NONE ? best.behindClear(made) : valueOf(made, choice);
        }

        private long followedIfClear(int made, int slot, int bestTarget) {
            boolean greedy = kind == GREEDY;
            int target = greedy ? night.dearest(reach.possible(made, slot)) : bestTarget;
            if (target == NONE) {
                return followed.behindClear(made);
            }
            return gain(target) + followed.behindClear(made + oneOf(target));
        }

        private long gain(int target) {
            if (kind == GREEDY) {
                return (long) night.number(target, Night.VALUE) * CERTAIN;
            }
            return kind == NUMBER && target == counted ? CERTAIN : 0;
        }
    }
}
