import java.util.function.Supplier;

/** The boundary cases of plans. */
final class PlanEdges {
    /** Equal odds of 500000 in all slots. */
    private static final String EVEN = "sky 50 50 50;";
    /** Team 0 could fill three slots, if team 1 did not wait with one exposure. */
    private static final String BLOCKED = "night 4;sky 50 80 30;"
            + "target 0 80 0 0 10 0 0 3 10;target 1 80 0 0 10 0 0 1 7;";
    /** The greatest values: twelve clear slots with 1000 points each. */
    private static final String FULL = "night 12;sky 100 100 0;" + "target 0 80 0 0 0 0 0 3 1000;".repeat(4);
    private static final String OVER = "pass pass pass pass";

    private final Edges edges;
    private final Check check;

    PlanEdges(Edges edges) {
        this.edges = edges;
        this.check = edges.check;
    }

    void run() {
        section();
        bestPlan();
        planWith();
        counts();
        turns();
        greed();
    }

    private void section() {
        edges.sentence("section 5", "A plan gives each slot from the present one on a target, or none, so "
                + "that all exposures would be possible one behind the other as told in section 4, if the "
                + "sky were clear in all these slots.", this::possiblePlans);
        edges.sentence("section 5", "(If the sky of the present slot is known to be cloudy, the plan gives "
                + "it none.)", this::cloudyPlans);
        edges.sentence("section 5", "The value of a plan is the sum, over its exposures, of the target's "
                + "value * the odds of the slot", this::sums);
        edges.sentence("section 5", "the odds of the present slot are 1,000,000 if it is known to be clear, "
                + "and 0 if it is known to be cloudy", this::knownSkies);
        edges.sentence("section 5", "otherwise, and for later slots, the clear odds of section 2 (what was "
                + "seen before does not matter).", this::laterSlots);
        edges.sentence("section 5", "The best plan has the greatest value", this::greatestValues);
        edges.sentence("section 5", "of several the first one, if they are compared slot by slot, a target "
                + "with a lower number being first and none last.", this::firstOfSeveral);
    }

    private void bestPlan() {
        edges.sentence("promise 24", "Returns the value of the best plan.", this::leastAndGreatestValues);
        edges.sentence("promise 25", "a slot from the present one on", this::slotsAhead);
        edges.sentence("promise 25", "Returns the target; NONE if it gives none.", this::targetsAndNone);
        edges.sentence("promise 25", "Throws `IndexOutOfBoundsException` if the slot does not exist or is "
                + "over", () -> slotsThatAreOver(TelescopeNight::planned));
    }

    private void planWith() {
        edges.sentence("promise 26", "a slot from the present one on", this::slotsAheadWith);
        edges.sentence("promise 26", "Returns the value of the best one of those plans that give a slot a "
                + "target.", this::valuesWith);
        edges.sentence("promise 26", "Throws `IndexOutOfBoundsException` if the slot does not exist or is "
                + "over, or the target does not exist", this::noSlotOrTarget);
        edges.sentence("promise 26", "Throws `NoSuchElementException` if there is no such plan",
                this::noSuchPlan);
    }

    private void counts() {
        edges.sentence("promise 27", "two plans are different if they give some slot something different.",
                this::differentPlans);
        edges.sentence("promise 27", "Returns the number of plans, at least 1.", this::atLeastOnePlan);
        edges.sentence("promise 28", "Returns by how much the value of the best plan is greater than that of "
                + "the best plan without exposures of a target (its team counts all the same).", this::worths);
        edges.sentence("promise 28", "Throws `IndexOutOfBoundsException` if the target does not exist",
                () -> edges.targets(TelescopeNight::worth));
    }

    private void turns() {
        edges.sentence("promise 29", "Returns by how much the value of the best plan would be greater if "
                + "each team were always in turn that has not waived.", this::prices);
        edges.sentence("promise 30", "Returns the greatest number of exposures that a plan can have.",
                this::mostExposures);
        edges.sentence("promise 30", "whether the rule of turns counts; otherwise each team that has not "
                + "waived is always in turn", this::withAndWithoutTurns);
    }

    private void greed() {
        edges.sentence("promise 31", "it gives each slot from the present one on, in order, the target with "
                + "the greatest value of those of which an exposure would be possible, of several the lowest "
                + "one, or none if there is none.", this::greedyChoices);
        edges.sentence("promise 31", "The odds do not matter for this choice.", this::greedyWithoutOdds);
    }

    private static Supplier<TelescopeNight> pair(String moves) {
        return Edges.at(Edges.PAIR, moves);
    }

    /** A target that can always be observed. */
    private static String seen(int team, int wanted, int value) {
        return "target " + team + " 80 0 0 0 0 0 " + wanted + " " + value + ";";
    }

    /** A target that can be observed in one slot alone. */
    private static String seenIn(int slot, int team, int value) {
        return "target " + team + " 80 30 " + slot + " 80 0 0 1 " + value + ";";
    }

    private static String hidden(int team) {
        return "target " + team + " 0 0 0 89 0 0 1 1;";
    }

    /** The value of the best plan, and what it gives the slots from the present one on. */
    private void plan(String text, String moves, long value, int... due) {
        TelescopeNight x = Edges.at(text, moves).get();
        String what = "'" + moves + "' of '" + text + "'";
        check.is("value of " + what, value, x::planValue);
        int present = x.count(3);
        check.is("slots ahead of " + what, due.length, () -> x.count(0) - present);
        for (int i = 0; i < due.length; i++) {
            int slot = present + i;
            check.is("slot " + slot + " of " + what, due[i], () -> x.planned(slot));
        }
    }

    // ---- section 5

    private void possiblePlans() {
        // As often as wanted, and no more.
        plan("night 4;" + EVEN + seen(0, 1, 4), "", 2000000, 0, -1, -1, -1);
        plan("night 4;" + EVEN + seen(0, 3, 4), "", 6000000, 0, 0, 0, -1);
        plan("night 4;" + EVEN + seen(0, 3, 4), "clear x0", 4000000, 0, 0, -1);
        plan("night 4;" + EVEN + seen(0, 1, 4), "clear x0", 0, -1, -1, -1);
        // Where it can be observed.
        plan("night 3;" + EVEN + seenIn(1, 0, 4), "", 2000000, -1, 0, -1);
        plan("night 3;" + EVEN + seenIn(2, 0, 4), "", 2000000, -1, -1, 0);
        plan("night 3;" + EVEN + seenIn(3, 0, 4), "", 0, -1, -1, -1);
        // In turn, one exposure behind the other.
        plan("night 4;" + EVEN + seen(0, 3, 4) + seen(1, 1, 1), "", 4500000, 0, 1, 0, -1);
        plan("night 4;" + EVEN + seen(0, 3, 4) + hidden(1), "", 2000000, 0, -1, -1, -1);
        plan("night 4;" + EVEN + seen(0, 3, 4) + hidden(1), "w1", 6000000, 0, 0, 0, -1);
        plan("night 4;" + EVEN + seen(0, 3, 4) + hidden(1), "w0", 0, -1, -1, -1, -1);
        plan("night 4;" + EVEN + seen(0, 3, 4) + seen(1, 1, 1), "clear x0", 2500000, 1, 0, -1);
    }

    private void cloudyPlans() {
        String one = "night 1;" + EVEN + seen(0, 1, 4);
        plan(one, "", 2000000, 0);
        plan(one, "clear", 4000000, 0);
        plan(one, "cloudy", 0, -1);
        edges.is("not even a plan without value", 1, Edges.at(one, "cloudy"), x -> x.planCount());
        edges.is("no exposure", 0, Edges.at(one, "cloudy"), x -> x.mostExposures(true));
        edges.is("no exposure without turns", 0, Edges.at(one, "cloudy"), x -> x.mostExposures(false));
        String two = "night 2;" + EVEN + seen(0, 2, 4);
        plan(two, "cloudy", 2000000, -1, 0);
        plan(two, "cloudy pass", 2000000, 0);
        plan(two, "pass cloudy", 0, -1);
        plan(two, "cloudy undo", 4000000, 0, 0);
    }

    private void sums() {
        // 7 * 0.5 + 10 * 0.55.
        plan("night 2;sky 50 80 30;" + seen(0, 1, 10) + seen(0, 1, 7), "", 9000000, 1, 0);
        // 10 * 0.5 + 7 * 0.4.
        plan("night 2;sky 50 20 60;" + seen(0, 1, 10) + seen(0, 1, 7), "", 7800000, 0, 1);
        plan("night 1;sky 1 0 0;" + seen(0, 1, 1), "", 10000, 0);
        plan("night 1;sky 100 0 0;" + seen(0, 1, 1000), "", 1000000000L, 0);
        plan(Edges.PAIR, "", 15475000, -1, 1, 0, 0);
    }

    private void knownSkies() {
        String never = "night 1;sky 0 0 0;" + seen(0, 1, 1000);
        plan(never, "", 0, 0);
        plan(never, "clear", 1000000000L, 0);
        plan(never, "cloudy", 0, -1);
        String always = "night 1;sky 100 100 100;" + seen(0, 1, 1000);
        plan(always, "", 1000000000L, 0);
        plan(always, "clear", 1000000000L, 0);
        plan(always, "cloudy", 0, -1);
        // The last slot of several.
        plan("night 2;sky 0 0 0;" + seen(0, 2, 3), "pass clear", 3000000, 0);
    }

    private void laterSlots() {
        String later = "night 2;sky 50 100 0;" + seenIn(1, 0, 10);
        for (String moves : new String[] {"", "clear", "cloudy"}) {
            plan(later, moves, 5000000, -1, 0);
        }
        for (String moves : new String[] {"pass", "clear pass", "cloudy pass"}) {
            plan(later, moves, 5000000, 0);
        }
        String chosen = "night 2;sky 50 100 0;" + seen(0, 1, 10) + seenIn(1, 0, 10);
        plan(chosen, "clear", 15000000, 0, 1);
        plan(chosen, "clear x0", 5000000, 1);
    }

    private void greatestValues() {
        // One point more, or the least odds more, decide.
        plan("night 1;sky 1 0 0;" + seen(0, 1, 999) + seen(0, 1, 1000), "", 10000000, 1);
        plan("night 2;sky 50 51 50;" + seen(0, 1, 1), "", 505000, -1, 0);
        plan("night 2;sky 50 50 49;" + seen(0, 1, 1), "", 500000, 0, -1);
        // Two cheap exposures against a dear one: team 0 has one turn, as team 1 waits for ever.
        plan("night 2;sky 100 100 0;" + seen(0, 2, 1) + seenIn(1, 0, 2) + hidden(1), "", 2000000, -1, 1);
        plan("night 2;sky 100 100 0;" + seen(0, 2, 1) + seenIn(1, 0, 2), "", 3000000, 0, 1);
    }

    private void firstOfSeveral() {
        String equals = "night 3;" + EVEN + seen(0, 1, 5) + seen(0, 1, 5);
        plan(equals, "", 5000000, 0, 1, -1);
        plan(equals, "clear x0", 2500000, 1, -1);
        // The lower target is seen in slot 1 alone, so the higher one stands in front of it.
        plan("night 2;" + EVEN + seenIn(1, 0, 5) + seen(0, 1, 5), "", 5000000, 1, 0);
        // Without odds all plans are equal: a target before none, and slot 0 matters most.
        plan("night 3;sky 0 0 0;" + seenIn(1, 0, 5) + seen(0, 1, 5), "", 0, 1, 0, -1);
        plan("night 2;sky 0 0 0;" + seen(0, 1, 1) + seen(0, 1, 1000), "", 0, 0, 1);
        plan("night 2;sky 0 0 0;" + seen(0, 3, 1) + seen(0, 1, 1000), "", 0, 0, 0);
        // An exposure without odds in slot 0 comes before none, if it costs nothing later.
        plan("night 2;sky 0 100 100;" + seen(0, 2, 5), "", 5000000, 0, 0);
        plan("night 2;sky 0 100 100;" + seen(0, 1, 5), "", 5000000, -1, 0);
        String six = "night 1;" + EVEN + hidden(0).repeat(5) + seen(0, 1, 5);
        plan(six, "", 2500000, 5);
        plan("night 1;" + EVEN + seen(0, 1, 5).repeat(6), "", 2500000, 0);
    }

    // ---- the best plan

    private void leastAndGreatestValues() {
        edges.is("without targets", 0, Edges.fresh(), x -> x.planValue());
        edges.is("over", 0, pair(OVER), x -> x.planValue());
        edges.is("over with points", 0, pair("clear x0 pass pass pass"), x -> x.planValue());
        edges.is("all have waived", 0, pair("w0 w1"), x -> x.planValue());
        edges.is("never seen", 0, Edges.at("night 4;" + hidden(0), ""), x -> x.planValue());
        edges.is("the least value", 10000, Edges.at("night 1;sky 1 0 0;" + seen(0, 1, 1), ""),
                x -> x.planValue());
        edges.is("the greatest value", 12000000000L, Edges.at(FULL, ""), x -> x.planValue());
        edges.is("one slot less", 11000000000L, Edges.at(FULL, "pass"), x -> x.planValue());
        edges.is("points so far do not count", 11000000000L, Edges.at(FULL, "clear x0"),
                x -> x.planValue());
    }

    private void slotsAhead() {
        edges.is("the present slot", -1, pair(""), x -> x.planned(0));
        edges.is("the last slot", 0, pair(""), x -> x.planned(3));
        edges.is("the present slot behind one", 1, pair("pass"), x -> x.planned(1));
        edges.refuses("the one in front of it", Edges.INDEX, pair("pass"), x -> x.planned(0));
        edges.is("the last slot is the present one", 0, pair("pass pass pass"), x -> x.planned(3));
        edges.refuses("behind the last slot", Edges.INDEX, pair("pass pass pass"), x -> x.planned(4));
        edges.refuses("over", Edges.INDEX, pair(OVER), x -> x.planned(3));
    }

    private void targetsAndNone() {
        plan("night 12;" + EVEN + seenIn(0, 0, 1) + seenIn(11, 0, 1), "", 1000000,
                0, -1, -1, -1, -1, -1, -1, -1, -1, -1, -1, 1);
        plan("night 1;", "", 0, -1);
        plan(FULL, "", 12000000000L, 0, 0, 0, 1, 1, 1, 2, 2, 2, 3, 3, 3);
    }

    /** Behind each number of slots the present slot and the last one exist, and none beyond them. */
    private void slotsThatAreOver(Edges.IndexUse use) {
        String moves = "";
        for (int present = 0; present <= 4; present++) {
            for (int slot = 0; slot <= 4; slot++) {
                int s = slot;
                String what = "slot " + slot + " with the present one " + present;
                if (slot >= present && slot < 4) {
                    edges.exists(what, pair(moves), x -> use.on(x, s));
                } else {
                    edges.refuses(what, Edges.INDEX, pair(moves), x -> use.on(x, s));
                }
            }
            for (int bad : new int[] {-1, 5, 12, Edges.LEAST, Edges.MOST}) {
                edges.refuses("slot " + bad, Edges.INDEX, pair(moves), x -> use.on(x, bad));
            }
            moves += " pass";
        }
        edges.index("one of twelve slots", Edges.at(FULL, "clear"), 11, use);
        edges.index("the only slot", Edges.at("night 1;" + seen(0, 1, 5), ""), 0, use);
        edges.refuses("the only slot is over", Edges.INDEX, Edges.at("night 1;" + seen(0, 1, 5), "pass"),
                x -> use.on(x, 0));
    }

    // ---- plans with a target

    private void slotsAheadWith() {
        String three = "night 3;" + EVEN + seen(0, 3, 4);
        edges.is("the present slot", 6000000, Edges.at(three, ""), x -> x.planValueWith(0, 0));
        edges.is("the last slot", 6000000, Edges.at(three, ""), x -> x.planValueWith(2, 0));
        edges.refuses("behind the last slot", Edges.INDEX, Edges.at(three, ""), x -> x.planValueWith(3, 0));
        edges.is("the present slot behind one", 4000000, Edges.at(three, "pass"),
                x -> x.planValueWith(1, 0));
        edges.refuses("the one in front of it", Edges.INDEX, Edges.at(three, "pass"),
                x -> x.planValueWith(0, 0));
        edges.is("the last slot is the present one", 2000000, Edges.at(three, "pass pass"),
                x -> x.planValueWith(2, 0));
        edges.refuses("over", Edges.INDEX, Edges.at(three, "pass pass pass"), x -> x.planValueWith(2, 0));
    }

    private void valuesWith() {
        // 10 * 0.5 + 7 * 0.575 + 10 * 0.5875.
        edges.is("slot 0, target 0", 14900000, pair(""), x -> x.planValueWith(0, 0));
        // 7 * 0.5 + 10 * 0.575 + 10 * 0.5875.
        edges.is("slot 0, target 1", 15125000, pair(""), x -> x.planValueWith(0, 1));
        edges.is("the best plan has it", 15475000, pair(""), x -> x.planValueWith(1, 1));
        edges.is("the last slot", 15475000, pair(""), x -> x.planValueWith(3, 0));
        // 10 * 0.575 + 7 * 0.5875.
        edges.is("the last slot, target 1", 9862500, pair(""), x -> x.planValueWith(3, 1));
        // 7 * 0.55 + 10 * 0.575, and 7 * 0.575 + 10 * 0.5875.
        edges.is("behind the other team's turn", 9600000, pair("clear x0"), x -> x.planValueWith(2, 0));
        edges.is("one slot later", 9900000, pair("clear x0"), x -> x.planValueWith(3, 0));
        edges.is("a plan without value", 0, Edges.at("night 1;sky 0 0 0;" + seen(0, 1, 9), ""),
                x -> x.planValueWith(0, 0));
        edges.is("the same slot, clear", 9000000, Edges.at("night 1;sky 0 0 0;" + seen(0, 1, 9), "clear"),
                x -> x.planValueWith(0, 0));
        edges.is("the greatest value", 12000000000L, Edges.at(FULL, ""), x -> x.planValueWith(11, 3));
        edges.is("a dear slot for a cheap target", 1500000,
                Edges.at("night 2;" + EVEN + seen(0, 1, 1) + seenIn(1, 0, 1000) + seen(0, 1, 2), ""),
                x -> x.planValueWith(1, 0));
    }

    private void noSlotOrTarget() {
        slotsThatAreOver((x, index) -> x.planValueWith(index, 0));
        edges.targets((x, index) -> x.planValueWith(x.count(0) - 1, index));
        edges.refuses("both", Edges.INDEX, pair("pass"), x -> x.planValueWith(0, 2));
        edges.refuses("a target that does not exist, and clouds", Edges.INDEX, pair("cloudy"),
                x -> x.planValueWith(0, 2));
        edges.refuses("a slot that is over, and no such plan", Edges.INDEX, pair("cloudy pass"),
                x -> x.planValueWith(0, 0));
    }

    private void noSuchPlan() {
        edges.refuses("clouds in the present slot", Edges.ELEMENT, pair("cloudy"),
                x -> x.planValueWith(0, 0));
        edges.is("but not in the next one", 15475000, pair("cloudy"), x -> x.planValueWith(1, 1));
        edges.refuses("it has waived", Edges.ELEMENT, pair("w0"), x -> x.planValueWith(3, 0));
        edges.refuses("no more are wanted", Edges.ELEMENT, pair("clear x1"), x -> x.planValueWith(3, 1));
        edges.refuses("not in turn yet", Edges.ELEMENT, pair("clear x0"), x -> x.planValueWith(1, 0));
        String seldom = "night 3;" + EVEN + seenIn(1, 0, 5) + hidden(1);
        edges.is("seen in slot 1", 2500000, Edges.at(seldom, ""), x -> x.planValueWith(1, 0));
        edges.refuses("not seen in slot 0", Edges.ELEMENT, Edges.at(seldom, ""), x -> x.planValueWith(0, 0));
        edges.refuses("not seen in slot 2", Edges.ELEMENT, Edges.at(seldom, ""), x -> x.planValueWith(2, 0));
        edges.refuses("never seen", Edges.ELEMENT, Edges.at(seldom, ""), x -> x.planValueWith(1, 1));
        String waits = "night 3;" + EVEN + seen(0, 2, 5) + hidden(1);
        edges.refuses("another team waits for ever", Edges.ELEMENT, Edges.at(waits, "clear x0"),
                x -> x.planValueWith(2, 0));
        edges.is("until it waives", 2500000, Edges.at(waits, "clear x0 w1"), x -> x.planValueWith(2, 0));
    }

    // ---- numbers of plans, and what a target is worth

    private void differentPlans() {
        edges.is("one best plan", 1, pair(""), x -> x.planCount());
        edges.is("two orders", 2, Edges.at("night 2;" + EVEN + seen(0, 1, 5).repeat(2), ""),
                x -> x.planCount());
        edges.is("three places for two", 6, Edges.at("night 3;" + EVEN + seen(0, 1, 5).repeat(2), ""),
                x -> x.planCount());
        edges.is("two exposures of one target have no order", 3,
                Edges.at("night 3;" + EVEN + seen(0, 2, 5), ""), x -> x.planCount());
        edges.is("without odds none is as good", 2, Edges.at("night 1;sky 0 0 0;" + seen(0, 1, 5), ""),
                x -> x.planCount());
        edges.is("six targets or none", 7, Edges.at("night 1;sky 0 0 0;" + seen(0, 1, 5).repeat(6), ""),
                x -> x.planCount());
        edges.is("six targets", 6, Edges.at("night 1;" + EVEN + seen(0, 1, 5).repeat(6), ""),
                x -> x.planCount());
        edges.is("a value of one point less", 5,
                Edges.at("night 1;" + EVEN + seen(0, 1, 5).repeat(5) + seen(0, 1, 4), ""),
                x -> x.planCount());
        // 12! / 3! ^ 4.
        edges.is("twelve full slots", 369600, Edges.at(FULL, ""), x -> x.planCount());
    }

    private void atLeastOnePlan() {
        edges.is("without targets", 1, Edges.fresh(), x -> x.planCount());
        edges.is("over", 1, pair(OVER), x -> x.planCount());
        edges.is("all have waived", 1, pair("w0 w1"), x -> x.planCount());
        edges.is("never seen", 1, Edges.at("night 12;" + hidden(0).repeat(6), ""), x -> x.planCount());
        edges.is("the only slot is cloudy", 1, Edges.at("night 1;" + seen(0, 1, 5), "cloudy"),
                x -> x.planCount());
        edges.is("no more are wanted", 1, Edges.at("night 2;" + seen(0, 1, 5), "clear x0"),
                x -> x.planCount());
    }

    private void worths() {
        // Without target 1 its team waits all the same, so target 0 has the last slot alone.
        edges.is("target 1 of the pair", 15475000 - 5875000, pair(""), x -> x.worth(1));
        edges.is("target 0 of the pair", 15475000 - 4112500, pair(""), x -> x.worth(0));
        edges.is("a team that has waived does not wait", 0, pair("w1"), x -> x.worth(1));
        edges.is("then the other one is worth all", 5750000 + 5875000, pair("w1"), x -> x.worth(0));
        edges.is("never seen", 0, Edges.at("night 2;" + seen(0, 1, 5) + hidden(0), ""), x -> x.worth(1));
        edges.is("no more are wanted", 0, pair("clear x1"), x -> x.worth(1));
        edges.is("over", 0, pair(OVER), x -> x.worth(0));
        edges.is("the only slot is cloudy", 0, Edges.at("night 1;" + seen(0, 1, 5), "cloudy"),
                x -> x.worth(0));
        edges.is("one of two equals in one slot", 0, Edges.at("night 1;" + seen(0, 1, 5).repeat(2), ""),
                x -> x.worth(0));
        edges.is("one of two equals in two slots", 2500000,
                Edges.at("night 2;" + EVEN + seen(0, 1, 5).repeat(2), ""), x -> x.worth(1));
        edges.is("the last one of six", 500000,
                Edges.at("night 1;" + EVEN + seen(0, 1, 5).repeat(5) + seen(0, 1, 6), ""),
                x -> x.worth(5));
        edges.is("the greatest worth", 3000000000L,
                Edges.at("night 12;sky 100 100 0;" + seen(0, 3, 1000), ""), x -> x.worth(0));
    }

    // ---- turns

    private void prices() {
        edges.is("turns cost nothing", 0, pair(""), x -> x.priceOfTurns());
        // 7 * 0.5 + 10 * (0.55 + 0.575 + 0.5875) - 15.475.
        edges.is("turns cost something", 5150000, Edges.at(BLOCKED, ""), x -> x.priceOfTurns());
        edges.is("the other team has waived", 0, Edges.at(BLOCKED, "w1"), x -> x.priceOfTurns());
        edges.is("without targets", 0, Edges.fresh(), x -> x.priceOfTurns());
        edges.is("over", 0, Edges.at(BLOCKED, OVER), x -> x.priceOfTurns());
        edges.is("one team alone", 0, Edges.at(FULL, ""), x -> x.priceOfTurns());
        // A team that has waived is not in turn, even if turns do not count.
        String three = "night 3;" + EVEN + seen(0, 3, 10) + hidden(1) + seen(2, 3, 1000);
        edges.is("without the team that has waived", 10000000, Edges.at(three, "w2"),
                x -> x.priceOfTurns());
        edges.is("with it", 1500000000L - 505000000L, Edges.at(three, ""), x -> x.priceOfTurns());
        edges.is("the last slot, clear", 10000000,
                Edges.at("night 2;" + EVEN + seen(0, 2, 10) + hidden(1), "clear x0 clear"),
                x -> x.priceOfTurns());
        edges.is("the last slot, cloudy", 0,
                Edges.at("night 2;" + EVEN + seen(0, 2, 10) + hidden(1), "clear x0 cloudy"),
                x -> x.priceOfTurns());
    }

    private void most(String text, String moves, int withTurns, int without) {
        edges.is("most of '" + text + "' behind '" + moves + "'", withTurns, Edges.at(text, moves),
                x -> x.mostExposures(true));
        edges.is("most without turns of '" + text + "' behind '" + moves + "'", without,
                Edges.at(text, moves), x -> x.mostExposures(false));
    }

    private void mostExposures() {
        most("night 6;", "", 0, 0);
        most("night 1;" + seen(0, 3, 1), "", 1, 1);
        most("night 1;" + seen(0, 3, 1), "cloudy", 0, 0);
        most("night 1;" + seen(0, 3, 1), "clear", 1, 1);
        most("night 1;" + seen(0, 3, 1), "pass", 0, 0);
        most("night 12;" + seen(0, 3, 1), "", 3, 3);
        most("night 12;" + seen(0, 3, 1), "clear x0 clear x0", 1, 1);
        most("night 12;" + seen(0, 3, 1), "clear x0 clear x0 clear x0", 0, 0);
        most("night 12;" + seen(0, 3, 1).repeat(6), "", 12, 12);
        most("night 12;" + seen(0, 3, 1).repeat(6), "pass", 11, 11);
        most("night 12;sky 0 0 0;" + seen(0, 3, 1).repeat(3), "", 9, 9);
        most("night 12;" + hidden(0).repeat(6), "", 0, 0);
    }

    private void withAndWithoutTurns() {
        most(BLOCKED, "", 3, 4);
        most(BLOCKED, "cloudy", 3, 3);
        most(BLOCKED, "clear x0", 2, 3);
        most(BLOCKED, "w1", 3, 3);
        most(BLOCKED, "w0", 1, 1);
        most(BLOCKED, "w0 w1", 0, 0);
        most("night 12;" + seen(0, 3, 1).repeat(4) + hidden(3), "", 1, 12);
        most("night 12;" + seen(0, 3, 1).repeat(4) + hidden(3), "clear x0", 0, 11);
        most("night 12;" + seen(0, 3, 1) + seen(1, 1, 1) + seen(2, 2, 1), "", 5, 6);
    }

    // ---- greed

    private void greedyChoices() {
        // 10 * 0.5 + 7 * 0.55 + 10 * 0.575, and no target is left for slot 3.
        edges.is("the dearest first", 14600000, pair(""), x -> x.greedyValue());
        edges.is("clear", 19600000, pair("clear"), x -> x.greedyValue());
        // 10 * 0.55 + 7 * 0.575 + 10 * 0.5875.
        edges.is("cloudy", 15400000, pair("cloudy"), x -> x.greedyValue());
        edges.is("not in turn", 7 * 550000 + 10 * 575000, pair("clear x0"), x -> x.greedyValue());
        edges.is("waived", 7 * 500000, pair("w0"), x -> x.greedyValue());
        edges.is("all have waived", 0, pair("w0 w1"), x -> x.greedyValue());
        edges.is("over", 0, pair(OVER), x -> x.greedyValue());
        edges.is("without targets", 0, Edges.fresh(), x -> x.greedyValue());
        edges.is("one point more is dearer", 6500000,
                Edges.at("night 1;sky 50 0 0;" + seen(0, 1, 12) + seen(0, 1, 13), ""),
                x -> x.greedyValue());
        String clear = "night 2;sky 100 100 0;";
        edges.is("the lowest of equals", 10000000, Edges.at(clear + seenIn(0, 0, 5) + seen(0, 1, 5), ""),
                x -> x.greedyValue());
        edges.is("to its loss", 5000000, Edges.at(clear + seen(0, 1, 5) + seenIn(0, 0, 5), ""),
                x -> x.greedyValue());
        edges.is("the greatest value", 12000000000L, Edges.at(FULL, ""), x -> x.greedyValue());
        edges.is("a slot without a target in between", 10000000,
                Edges.at("night 3;sky 100 100 0;" + seenIn(0, 0, 5) + seenIn(2, 0, 5), ""),
                x -> x.greedyValue());
    }

    private void greedyWithoutOdds() {
        String later = "night 2;sky 0 100 100;" + seen(0, 1, 5);
        edges.is("a slot without odds is taken", 0, Edges.at(later, ""), x -> x.greedyValue());
        edges.is("the best plan waits", 5000000, Edges.at(later, ""), x -> x.planValue());
        edges.is("clouds are no choice", 5000000, Edges.at(later, "cloudy"), x -> x.greedyValue());
        edges.is("a clear slot", 5000000, Edges.at(later, "clear"), x -> x.greedyValue());
        // In slot 0 the dear target has odds of 0.01, in slot 1 both would have odds of 1.
        String dear = "night 2;sky 1 100 100;" + seen(0, 1, 1000) + seen(0, 1, 1);
        edges.is("the dear target goes first", 1000 * 10000 + 1000000, Edges.at(dear, ""),
                x -> x.greedyValue());
    }
}
