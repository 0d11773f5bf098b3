import java.util.function.Supplier;

/** The boundary cases of decisions and mean values. */
final class DecisionEdges {
    private static final String ONE = "night 2;sky 50 80 30;target 0 80 0 0 10 0 0 1 10;";
    /** One target of one point, which is seen in the last slot alone; clouds stay for ever. */
    private static final String LATE = "night 8;sky 77 77 0;target 0 80 30 7 80 0 0 1 1;";
    /** The greatest values: twelve clear slots with 1000 points each. */
    private static final String FULL = "night 12;sky 100 100 0;" + "target 0 80 0 0 0 0 0 3 1000;".repeat(4);
    private static final String OVER = "pass pass pass pass";

    private final Edges edges;
    private final Check check;

    DecisionEdges(Edges edges) {
        this.edges = edges;
        this.check = edges.check;
    }

    void run() {
        section();
        means();
        decisions();
        followed();
        greedAndClear();
    }

    private void section() {
        edges.sentence("section 6", "if the night is over, 0.", this::over);
        edges.sentence("section 6", "If the sky is cloudy, it is N.", this::cloudy);
        edges.sentence("section 6", "If it is clear, it is the greatest one of N and, for each possible "
                + "exposure, the target's value * 1,000,000 plus the N behind it.", this::clear);
        edges.sentence("section 6", "with the percentage p of the next slot being clear behind the present "
                + "sky, (p * M(clear) + (100 - p) * M(cloudy)) / 100, rounded down (0 if there is no next "
                + "slot).", this::nextSlots);
        edges.sentence("section 6", "If the sky of the present slot is unknown, the mean value is (p * "
                + "M(clear) + (100 - p) * M(cloudy)) / 100, where p is the first percentage in slot 0, and "
                + "otherwise the one that belongs to the sky of the slot before, if this was looked at",
                this::unknownSkies);
        edges.sentence("section 6", "if it was not looked at, p is the clear odds of the present slot / "
                + "10,000, rounded down.", this::notLookedAt);
        edges.sentence("section 6", "(All M and N are in millionths of points.)", this::leastAndGreatest);
    }

    private void means() {
        edges.sentence("promise 32", "Returns the mean value in millionths of points.",
                this::leastAndGreatest);
        edges.sentence("promise 33", "Returns the mean value that an exposure now and the best decisions "
                + "behind it would give: the target's value * 1,000,000 plus N.", this::exposuresNow);
        edges.sentence("promise 33", "Throws `IndexOutOfBoundsException` if the target does not exist",
                this::meanOfNoTarget);
        edges.sentence("promise 33", "Throws `IllegalStateException` if the sky of the present slot is not "
                + "known to be clear, or an exposure of this target cannot be made", this::impossibleMeans);
    }

    private void decisions() {
        edges.sentence("promise 34", "the target with which the mean value is reached, the lowest one of "
                + "several; NONE if the mean value is N and no exposure reaches it.", this::bestDecisions);
        edges.sentence("promise 34", "Throws `IllegalStateException` if the sky of the present slot is not "
                + "known", this::noDecision);
    }

    private void followed() {
        edges.sentence("promise 35", "Returns the mean number of exposures of a target from the present "
                + "situation on, if the best decisions are made", this::meanNumbers);
        edges.sentence("promise 35", "a clear sky gives what follows from this decision alone, and an "
                + "exposure gives 1,000,000 if it is one of this target, otherwise 0.",
                this::decisionsAlone);
        edges.sentence("promise 35", "Throws `IndexOutOfBoundsException` if the target does not exist",
                () -> edges.targets(TelescopeNight::meanExposures));
        edges.sentence("promise 36", "behind the last slot the value is 1,000,000 if the target has all of "
                + "its exposures, otherwise 0.", this::behindTheLastSlot);
        edges.sentence("promise 36", "Returns 0 to 1,000,000.", this::leastAndGreatestFinish);
        edges.sentence("promise 36", "Throws `IndexOutOfBoundsException` if the target does not exist",
                () -> edges.targets(TelescopeNight::finishOdds));
    }

    private void greedAndClear() {
        edges.sentence("promise 37", "if in each slot with a clear sky the target with the greatest value of "
                + "those of which an exposure is possible, of several the lowest one, is exposed, if there is "
                + "any.", this::greedyMeans);
        edges.sentence("promise 38", "Returns by how much M of the present slot is greater if its sky is "
                + "clear than if it is cloudy, whether it is known or not.", this::worthsOfClear);
        edges.sentence("promise 38", "Throws `IllegalStateException` if the night is over",
                this::noWorthOfClear);
    }

    private static Supplier<TelescopeNight> one(String moves) {
        return Edges.at(ONE, moves);
    }

    private static Supplier<TelescopeNight> late(String moves) {
        return Edges.at(LATE, moves);
    }

    private static Supplier<TelescopeNight> pair(String moves) {
        return Edges.at(Edges.PAIR, moves);
    }

    /** A target of team 0 that can always be observed. */
    private static String seen(int wanted, int value) {
        return "target 0 80 0 0 0 0 0 " + wanted + " " + value + ";";
    }

    /** A target of team 0 that can be observed in slot 1 alone. */
    private static String seenIn1(int value) {
        return "target 0 80 30 1 80 0 0 1 " + value + ";";
    }

    /**
     * Some points now or 100 points in the next slot, which will be clear by a percentage: team 0 has
     * one turn, as the target of team 1 is never seen.
     */
    private static String nowOrLater(int points, int percentage) {
        return "night 2;sky 50 " + percentage + " 30;" + seen(1, points) + seenIn1(100)
                + "target 1 0 0 0 89 0 0 1 5;";
    }

    // ---- section 6

    private void over() {
        edges.is("over", 0, one("pass pass"), x -> x.meanValue());
        edges.is("over behind an exposure", 0, one("pass clear x0"), x -> x.meanValue());
        edges.is("the only slot is over", 0, Edges.at("night 1;sky 100 100 100;" + seen(3, 9), "pass"),
                x -> x.meanValue());
        edges.is("twelve slots are over", 0, Edges.at(FULL, OVER + " " + OVER + " " + OVER),
                x -> x.meanValue());
        edges.is("the last one of twelve is not", 1000000000L,
                Edges.at(FULL, OVER + " " + OVER + " pass pass pass clear"), x -> x.meanValue());
        edges.is("no exposures then", 0, one("pass pass"), x -> x.meanExposures(0));
        edges.is("nor greedy ones", 0, one("pass pass"), x -> x.greedyMean());
    }

    private void cloudy() {
        edges.is("30 percent", 3000000, one("cloudy"), x -> x.meanValue());
        edges.is("the last slot", 0, one("pass cloudy"), x -> x.meanValue());
        edges.is("clouds for ever", 0, Edges.at("night 12;sky 100 100 0;" + seen(3, 9), "cloudy"),
                x -> x.meanValue());
        edges.is("never again", 9000000, Edges.at("night 2;sky 0 0 100;" + seen(3, 9), "cloudy"),
                x -> x.meanValue());
    }

    private void clear() {
        edges.is("an exposure now", 10000000, one("clear"), x -> x.meanValue());
        edges.is("no exposure is possible", 8000000, Edges.at("night 2;sky 50 80 30;" + seenIn1(10), "clear"),
                x -> x.meanValue());
        edges.is("the last slot", 10000000, one("pass clear"), x -> x.meanValue());
        edges.is("the last slot, nothing is left", 0, one("clear x0 clear"), x -> x.meanValue());
        edges.is("without targets", 0, Edges.at("night 2;", "clear"), x -> x.meanValue());
        // N is 50 points: it is better to wait than 49 points, as good as 50, worse than 51.
        edges.is("49 or 50", 50000000, Edges.at(nowOrLater(49, 50), "clear"), x -> x.meanValue());
        edges.is("50 or 50", 50000000, Edges.at(nowOrLater(50, 50), "clear"), x -> x.meanValue());
        edges.is("51 or 50", 51000000, Edges.at(nowOrLater(51, 50), "clear"), x -> x.meanValue());
        // Without the team that waits both exposures can be made: 49 + 0.5 * 100.
        edges.is("one and the other", 99000000, Edges.at(nowOrLater(49, 50), "clear w1"),
                x -> x.meanValue());
    }

    private void nextSlots() {
        // 77 percent of it in each slot, rounded down each time: 351530.41, 270678.1, 208422.06 ...
        long[] due = {160484, 208422, 270678, 351530, 456533, 592900, 770000, 1000000};
        String moves = "";
        for (int slot = 0; slot < due.length; slot++) {
            edges.is("clear in slot " + slot, due[slot], late(moves + "clear"), x -> x.meanValue());
            edges.is("cloudy in slot " + slot, 0, late(moves + "cloudy"), x -> x.meanValue());
            moves += "pass ";
        }
        edges.is("0 percent behind a clear slot", 0,
                Edges.at("night 2;sky 50 0 100;" + seenIn1(9), "clear"), x -> x.meanValue());
        edges.is("100 percent behind a cloudy one", 9000000,
                Edges.at("night 2;sky 50 0 100;" + seenIn1(9), "cloudy"), x -> x.meanValue());
        edges.is("1 percent behind a clear one", 90000,
                Edges.at("night 2;sky 50 1 0;" + seenIn1(9), "clear"), x -> x.meanValue());
        edges.is("99 percent behind a cloudy one", 8910000,
                Edges.at("night 2;sky 50 0 99;" + seenIn1(9), "cloudy"), x -> x.meanValue());
        edges.is("no next slot behind an exposure", 10000000, one("pass clear"), x -> x.meanValueOf(0));
    }

    private void unknownSkies() {
        // 50 percent of 10 and of 3.
        edges.is("slot 0", 6500000, one(""), x -> x.meanValue());
        // 77 percent of 160484 is 123572.68.
        edges.is("slot 0, rounded down", 123572, late(""), x -> x.meanValue());
        String slot1 = "night 2;sky 33 77 11;" + seenIn1(1);
        edges.is("slot 0 of both", 327800, Edges.at(slot1, ""), x -> x.meanValue());
        edges.is("behind a clear slot", 770000, Edges.at(slot1, "clear pass"), x -> x.meanValue());
        edges.is("behind a cloudy slot", 110000, Edges.at(slot1, "cloudy pass"), x -> x.meanValue());
        edges.is("behind an exposure", 8000000,
                Edges.at("night 2;sky 50 80 30;" + seen(2, 10), "clear x0"), x -> x.meanValue());
        edges.is("0 percent in slot 0", 0, Edges.at("night 1;sky 0 100 100;" + seen(1, 9), ""),
                x -> x.meanValue());
        edges.is("100 percent in slot 0", 9000000, Edges.at("night 1;sky 100 0 0;" + seen(1, 9), ""),
                x -> x.meanValue());
        // Only the slot directly before counts.
        String slot2 = "night 3;sky 33 77 11;target 0 80 30 2 80 0 0 1 1;";
        edges.is("cloudy, then clear", 770000, Edges.at(slot2, "cloudy pass clear pass"),
                x -> x.meanValue());
        edges.is("clear, then cloudy", 110000, Edges.at(slot2, "clear pass cloudy pass"),
                x -> x.meanValue());
        edges.is("behind a restart", 327800, Edges.at(slot1, "cloudy pass restart"), x -> x.meanValue());
    }

    private void notLookedAt() {
        // The clear odds are 327800 in slot 1, and 326348 in slot 2.
        edges.is("32 percent", 320000, Edges.at("night 2;sky 33 77 11;" + seenIn1(1), "pass"),
                x -> x.meanValue());
        String slot2 = "night 3;sky 33 77 11;target 0 80 30 2 80 0 0 1 1;";
        edges.is("clear, then not looked at", 320000, Edges.at(slot2, "clear pass pass"),
                x -> x.meanValue());
        edges.is("never looked at", 320000, Edges.at(slot2, "pass pass"), x -> x.meanValue());
        // The clear odds of slot 1 are 10000, 9900, 19900, 1000000, 990000 and 0.
        edges.is("exactly 1 percent", 10000, Edges.at("night 2;sky 1 100 0;" + seenIn1(1), "pass"),
                x -> x.meanValue());
        edges.is("less than 1 percent", 0, Edges.at("night 2;sky 1 99 0;" + seenIn1(1), "pass"),
                x -> x.meanValue());
        edges.is("less than 2 percent", 10000, Edges.at("night 2;sky 1 100 1;" + seenIn1(1), "pass"),
                x -> x.meanValue());
        edges.is("100 percent", 1000000, Edges.at("night 2;sky 1 100 100;" + seenIn1(1), "pass"),
                x -> x.meanValue());
        edges.is("99 percent", 990000, Edges.at("night 2;sky 100 99 0;" + seenIn1(1), "pass"),
                x -> x.meanValue());
        edges.is("0 percent", 0, Edges.at("night 2;sky 0 100 0;" + seenIn1(1), "pass"),
                x -> x.meanValue());
        // The clear odds of slot 2 are one millionth below a whole number of percents.
        notLookedAtInSlot2("99 0 1", 9999, 0);
        notLookedAtInSlot2("19 18 7", 79999, 70000);
        notLookedAtInSlot2("99 100 99", 999999, 990000);
    }

    private void notLookedAtInSlot2(String sky, int odds, int due) {
        String text = "night 3;sky " + sky + ";target 0 80 30 2 80 0 0 1 1;";
        edges.is("odds of sky " + sky, odds, Edges.at(text, "pass pass"), x -> x.clearOdds(2));
        edges.is("mean value of sky " + sky, due, Edges.at(text, "pass pass"), x -> x.meanValue());
    }

    private void leastAndGreatest() {
        edges.is("without targets", 0, Edges.fresh(), x -> x.meanValue());
        edges.is("all have waived", 0, pair("w0 w1"), x -> x.meanValue());
        edges.is("no odds at all", 0, Edges.at("night 12;sky 0 0 0;" + seen(3, 1000), ""),
                x -> x.meanValue());
        edges.is("the greatest value", 12000000000L, Edges.at(FULL, ""), x -> x.meanValue());
        edges.is("one slot less", 11000000000L, Edges.at(FULL, "clear pass"), x -> x.meanValue());
        edges.is("points so far do not count", 11000000000L, Edges.at(FULL, "clear x0"),
                x -> x.meanValue());
        edges.is("one percent of one point", 10000, Edges.at("night 1;sky 1 0 0;" + seen(1, 1), ""),
                x -> x.meanValue());
    }

    // ---- an exposure now

    private void exposuresNow() {
        edges.is("nothing behind it", 10000000, one("clear"), x -> x.meanValueOf(0));
        edges.is("another one behind it", 18000000,
                Edges.at("night 2;sky 50 80 30;" + seen(2, 10), "clear"), x -> x.meanValueOf(0));
        edges.is("worse than to wait", 49000000, Edges.at(nowOrLater(49, 50), "clear"),
                x -> x.meanValueOf(0));
        edges.is("the least value", 1000000, Edges.at("night 1;" + seen(1, 1), "clear"),
                x -> x.meanValueOf(0));
        edges.is("the greatest value", 12000000000L, Edges.at(FULL, "clear"), x -> x.meanValueOf(3));
        // 5 + 0.8 * 1.
        edges.is("the last one of six", 5800000,
                Edges.at("night 2;sky 50 80 30;" + seen(1, 1).repeat(5) + seen(1, 5), "clear"),
                x -> x.meanValueOf(5));
    }

    private void meanOfNoTarget() {
        edges.targets(TelescopeNight::meanValueOf);
        edges.refuses("an unknown sky matters less", Edges.INDEX, pair(""), x -> x.meanValueOf(2));
        edges.refuses("clouds matter less", Edges.INDEX, pair("cloudy"), x -> x.meanValueOf(-1));
        edges.refuses("the end of the night matters less", Edges.INDEX, pair(OVER), x -> x.meanValueOf(2));
        edges.refuses("under a clear sky", Edges.INDEX, pair("clear"), x -> x.meanValueOf(2));
    }

    private void impossibleMeans() {
        edges.refuses("an unknown sky", Edges.STATE, pair(""), x -> x.meanValueOf(0));
        edges.refuses("a cloudy sky", Edges.STATE, pair("cloudy"), x -> x.meanValueOf(0));
        edges.refuses("a clear slot before", Edges.STATE, pair("clear pass"), x -> x.meanValueOf(0));
        edges.refuses("another team has had fewer turns", Edges.STATE, pair("clear x0 clear"),
                x -> x.meanValueOf(0));
        edges.refuses("no more are wanted", Edges.STATE, pair("clear x1 clear x0 clear"),
                x -> x.meanValueOf(1));
        edges.refuses("it has waived", Edges.STATE, pair("clear w0"), x -> x.meanValueOf(0));
        edges.refuses("over", Edges.STATE, pair(OVER), x -> x.meanValueOf(0));
        edges.refuses("not seen in slot 0", Edges.STATE, Edges.at("night 3;" + seenIn1(5), "clear"),
                x -> x.meanValueOf(0));
        edges.is("seen in slot 1", 5000000, Edges.at("night 3;" + seenIn1(5), "pass clear"),
                x -> x.meanValueOf(0));
        edges.refuses("not seen in slot 2", Edges.STATE, Edges.at("night 3;" + seenIn1(5), "pass pass clear"),
                x -> x.meanValueOf(0));
    }

    // ---- decisions

    private void bestDecisions() {
        edges.is("the only one", 0, one("clear"), x -> x.decision());
        edges.is("the dearer one", 1, Edges.at("night 1;" + seen(1, 4) + seen(1, 5), "clear"),
                x -> x.decision());
        edges.is("the lowest of equals", 0, Edges.at("night 1;" + seen(1, 5).repeat(6), "clear"),
                x -> x.decision());
        edges.is("the lowest that is possible", 1,
                Edges.at("night 2;" + seenIn1(5) + seen(1, 5).repeat(2), "clear"), x -> x.decision());
        edges.is("the last one of six", 5, Edges.at("night 1;" + seen(1, 5).repeat(5) + seen(1, 6), "clear"),
                x -> x.decision());
        edges.is("worse than to wait", -1, Edges.at(nowOrLater(49, 50), "clear"), x -> x.decision());
        edges.is("as good as to wait", 0, Edges.at(nowOrLater(50, 50), "clear"), x -> x.decision());
        edges.is("better than to wait", 0, Edges.at(nowOrLater(51, 50), "clear"), x -> x.decision());
        edges.is("as good as a certain exposure later", 0,
                Edges.at("night 2;sky 50 100 0;" + seen(1, 9), "clear"), x -> x.decision());
        edges.is("cloudy", -1, one("cloudy"), x -> x.decision());
        edges.is("nothing is left", -1, one("clear x0 clear"), x -> x.decision());
        edges.is("without targets", -1, Edges.at("night 2;", "clear"), x -> x.decision());
        edges.is("without targets, cloudy", -1, Edges.at("night 2;", "cloudy"), x -> x.decision());
        edges.is("waived", -1, one("clear w0"), x -> x.decision());
        edges.is("the last slot", 0, one("pass clear"), x -> x.decision());
    }

    private void noDecision() {
        edges.refuses("unknown", Edges.STATE, one(""), x -> x.decision());
        edges.refuses("unknown behind a clear slot", Edges.STATE, one("clear pass"), x -> x.decision());
        edges.refuses("unknown behind an exposure", Edges.STATE, one("clear x0"), x -> x.decision());
        edges.refuses("over", Edges.STATE, one("pass pass"), x -> x.decision());
        edges.refuses("over behind a clear slot", Edges.STATE, one("pass clear pass"), x -> x.decision());
        edges.refuses("unknown behind an undo", Edges.STATE, one("clear undo"), x -> x.decision());
        edges.refuses("without targets", Edges.STATE, Edges.fresh(), x -> x.decision());
    }

    // ---- what follows from the decisions

    private void meanNumbers() {
        edges.is("slot 0", 650000, one(""), x -> x.meanExposures(0));
        edges.is("clear", 1000000, one("clear"), x -> x.meanExposures(0));
        edges.is("cloudy", 300000, one("cloudy"), x -> x.meanExposures(0));
        edges.is("not looked at", 550000, one("pass"), x -> x.meanExposures(0));
        edges.is("behind a clear slot", 800000, one("clear pass"), x -> x.meanExposures(0));
        edges.is("over", 0, one("pass pass"), x -> x.meanExposures(0));
        edges.is("those so far do not count", 0, one("clear x0"), x -> x.meanExposures(0));
        edges.is("over behind an exposure", 0, one("clear x0 pass"), x -> x.meanExposures(0));
        edges.is("all have waived", 0, one("w0"), x -> x.meanExposures(0));
        edges.is("the most", 3000000, Edges.at(FULL, ""), x -> x.meanExposures(3));
        edges.is("one less", 2000000, Edges.at(FULL, "clear x3"), x -> x.meanExposures(3));
        edges.is("rounded down", 123572, late(""), x -> x.meanExposures(0));
        edges.is("rounded down each time", 160484, late("clear"), x -> x.meanExposures(0));
    }

    private void decisionsAlone() {
        // 49 points now are not taken: 100 points come by 50 percent; 50 and 51 points are taken.
        for (int points = 49; points <= 51; points++) {
            Supplier<TelescopeNight> x = Edges.at(nowOrLater(points, 50), "clear");
            edges.is(points + " points now", points < 50 ? 0 : 1000000, x, y -> y.meanExposures(0));
            edges.is("100 points behind " + points, points < 50 ? 500000 : 0, x, y -> y.meanExposures(1));
        }
        edges.is("the lowest of equals", 1000000, Edges.at("night 1;" + seen(1, 5).repeat(6), "clear"),
                x -> x.meanExposures(0));
        edges.is("not the next one", 0, Edges.at("night 1;" + seen(1, 5).repeat(6), "clear"),
                x -> x.meanExposures(1));
        edges.is("the dear one of two", 500000, Edges.at("night 1;" + seen(1, 5) + seen(1, 6), ""),
                x -> x.meanExposures(1));
        edges.is("the cheap one of two", 0, Edges.at("night 1;" + seen(1, 5) + seen(1, 6), ""),
                x -> x.meanExposures(0));
    }

    private void behindTheLastSlot() {
        String two = "night 3;sky 50 80 30;" + seen(2, 5);
        edges.is("none of two", 0, Edges.at(two, "pass pass pass"), x -> x.finishOdds(0));
        edges.is("one of two", 0, Edges.at(two, "clear x0 pass pass"), x -> x.finishOdds(0));
        edges.is("two of two", 1000000, Edges.at(two, "clear x0 pass clear x0"), x -> x.finishOdds(0));
        edges.is("two of two, not over", 1000000, Edges.at(two, "clear x0 clear x0"),
                x -> x.finishOdds(0));
        edges.is("two of two, and clouds", 1000000, Edges.at(two, "clear x0 clear x0 cloudy"),
                x -> x.finishOdds(0));
        edges.is("the last one in the last slot", 1000000, Edges.at(two, "clear x0 pass clear"),
                x -> x.finishOdds(0));
        edges.is("clouds in the last slot", 0, Edges.at(two, "clear x0 pass cloudy"),
                x -> x.finishOdds(0));
        edges.is("the last slot behind a clear one", 800000, Edges.at(two, "clear x0 clear pass"),
                x -> x.finishOdds(0));
        edges.is("two are missing in the last slot", 0, Edges.at(two, "pass pass clear"),
                x -> x.finishOdds(0));
        edges.is("waived with all exposures", 1000000, Edges.at(two, "clear x0 clear x0 w0"),
                x -> x.finishOdds(0));
        edges.is("waived with one missing", 0, Edges.at(two, "clear x0 w0"), x -> x.finishOdds(0));
    }

    private void leastAndGreatestFinish() {
        edges.is("certain", 1000000, Edges.at(FULL, ""), x -> x.finishOdds(3));
        edges.is("one slot too few for the last target", 0, Edges.at(FULL, "clear pass"),
                x -> x.finishOdds(3));
        edges.is("enough for the one in front of it", 1000000, Edges.at(FULL, "clear pass"),
                x -> x.finishOdds(2));
        edges.is("never seen", 0, Edges.at("night 12;sky 100 100 0;target 0 0 0 0 1 0 0 1 1;", ""),
                x -> x.finishOdds(0));
        edges.is("more than there are slots", 0, Edges.at("night 2;sky 100 100 0;" + seen(3, 1), ""),
                x -> x.finishOdds(0));
        edges.is("one of one", 650000, one(""), x -> x.finishOdds(0));
        // Both slots must be clear.
        edges.is("two of two", 400000, Edges.at("night 2;sky 50 80 30;" + seen(2, 1), ""),
                x -> x.finishOdds(0));
        edges.is("rounded down", 123572, late(""), x -> x.finishOdds(0));
        edges.is("not the best decision", 0, Edges.at(nowOrLater(49, 50), "clear"), x -> x.finishOdds(0));
        edges.is("as good as to wait", 1000000, Edges.at(nowOrLater(50, 50), "clear"),
                x -> x.finishOdds(0));
    }

    // ---- greed, and the worth of a clear sky

    private void greedyMeans() {
        // Clear: 49 points, and the turn is gone; cloudy: 30 percent of 100 points.
        edges.is("to its loss", 49000000, Edges.at(nowOrLater(49, 50), "clear"), x -> x.greedyMean());
        edges.is("cloudy", 30000000, Edges.at(nowOrLater(49, 50), "cloudy"), x -> x.greedyMean());
        edges.is("slot 0", 39500000, Edges.at(nowOrLater(49, 50), ""), x -> x.greedyMean());
        String clear = "night 2;sky 100 100 0;";
        edges.is("the lowest of equals", 10000000,
                Edges.at(clear + "target 0 80 30 0 80 0 0 1 5;" + seen(1, 5), ""), x -> x.greedyMean());
        edges.is("the lowest of equals, to its loss", 5000000,
                Edges.at(clear + seen(1, 5) + "target 0 80 30 0 80 0 0 1 5;", ""), x -> x.greedyMean());
        edges.is("one point more is dearer", 13000000,
                Edges.at("night 1;" + seen(1, 12) + seen(1, 13), "clear"), x -> x.greedyMean());
        edges.is("none is possible in slot 0", 5000000, Edges.at(clear + seenIn1(5), ""),
                x -> x.greedyMean());
        edges.is("without targets", 0, Edges.fresh(), x -> x.greedyMean());
        edges.is("waived", 0, one("w0"), x -> x.greedyMean());
        edges.is("over", 0, pair(OVER), x -> x.greedyMean());
        edges.is("the greatest value", 12000000000L, Edges.at(FULL, ""), x -> x.greedyMean());
        edges.is("rounded down each time", 160484, late("clear"), x -> x.greedyMean());
        edges.is("rounded down", 123572, late(""), x -> x.greedyMean());
        edges.is("not looked at", 5500000, one("pass"), x -> x.greedyMean());
    }

    private void worthsOfClear() {
        for (String moves : new String[] {"", "clear", "cloudy"}) {
            edges.is("10 points or 30 percent of it, '" + moves + "'", 7000000, one(moves),
                    x -> x.worthOfClear());
            edges.is("less than nothing, '" + moves + "'", -10000000,
                    Edges.at("night 2;sky 50 0 100;" + seenIn1(10), moves), x -> x.worthOfClear());
            edges.is("nothing, '" + moves + "'", 0, Edges.at("night 2;sky 50 40 40;" + seenIn1(10), moves),
                    x -> x.worthOfClear());
            edges.is("the last slot, '" + moves + "'", 10000000, one("pass " + moves),
                    x -> x.worthOfClear());
            edges.is("without odds, '" + moves + "'", 1000000000L,
                    Edges.at("night 1;sky 0 0 0;" + seen(1, 1000), moves), x -> x.worthOfClear());
            edges.is("the greatest, '" + moves + "'", 12000000000L, Edges.at(FULL, moves),
                    x -> x.worthOfClear());
            edges.is("without targets, '" + moves + "'", 0, Edges.at("night 1;", moves),
                    x -> x.worthOfClear());
        }
    }

    private void noWorthOfClear() {
        edges.is("the last slot", 10000000, one("pass"), x -> x.worthOfClear());
        edges.refuses("over", Edges.STATE, one("pass pass"), x -> x.worthOfClear());
        edges.refuses("over behind an exposure", Edges.STATE, one("pass clear x0"), x -> x.worthOfClear());
        edges.refuses("the only slot is over", Edges.STATE, Edges.at("night 1;", "pass"),
                x -> x.worthOfClear());
        check.is("again behind a restart", 7000000, () -> one("pass pass restart").get().worthOfClear());
    }
}
