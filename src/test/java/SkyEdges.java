/** The boundary cases of the sections on the night and its clouds, and of the constants. */
final class SkyEdges {
    /** The numbers of a target that is always seen, up to its last ones. */
    private static final String SEEN = "target 0 80 0 0 0 0 0 1 1;";

    private final Edges edges;
    private final Check check;

    SkyEdges(Edges edges) {
        this.edges = edges;
        this.check = edges.check;
    }

    void run() {
        edges.sentence("What it is", "An object is used for at most 512 calls after it has been made; "
                + "what later calls answer is free.", this::manyCalls);
        night();
        bodies();
        clouds();
        constants();
    }

    private void night() {
        edges.sentence("section 1", "A night has 1 to 12 slots, numbered from 0; at first it has 6.",
                this::slots);
        edges.sentence("section 1", "There are at most 4 teams and at most 6 targets, each numbered from 0.",
                this::teamsAndTargets);
        edges.sentence("section 1", "the moon and each target have a peak (0 to 90), a curve (0 to 30) "
                + "and a transit (-10 to 25).", this::numbersOfBodies);
        edges.sentence("section 1", "It has a least height (0 to 89), a moon distance (0 to 180), a number "
                + "of wanted exposures (1 to 3) and a value (1 to 1000 points for each exposure).",
                this::numbersOfTargets);
        edges.sentence("section 1", "An exposure takes one slot.", this::oneSlot);
    }

    private void bodies() {
        edges.sentence("section 1", "The height of a body in slot t is peak - curve * (t - transit) "
                + "* (t - transit).", this::heights);
        edges.sentence("section 1", "(azimuth at slot 0 + 15 * t) modulo 360 for a target",
                this::azimuthsOfTargets);
        edges.sentence("section 1", "(azimuth at slot 0 + speed * t) modulo 360 for the moon",
                this::azimuthsOfTheMoon);
        edges.sentence("section 1", "At first the moon has the peak 0, the curve 1, the transit -10, the "
                + "azimuth 0, the speed 0 and the brightness 0.", this::firstMoon);
        edges.sentence("section 1", "the smaller one of d and 360 - d, where d is the absolute difference "
                + "of both azimuths.", this::distances);
        edges.sentence("section 1", "A target can be observed in a slot if its height is at least its least "
                + "height", this::leastHeights);
        edges.sentence("section 1", "if the height of the moon is greater than 0", this::moonAtTheGround);
        edges.sentence("section 1", "this distance is at least moon distance * brightness / 100, rounded "
                + "down.", this::moonDistances);
    }

    private void clouds() {
        edges.sentence("section 2", "at first they are 50, 80 and 30.", this::firstOdds);
        edges.sentence("section 2", "All odds and mean values are computed in millionths, and each division "
                + "is rounded down", this::roundedOdds);
        edges.sentence("section 2", "the clear odds of slot 0 are 10,000 * first percentage",
                this::oddsOfSlot0);
        edges.sentence("section 2", "those of slot t + 1 are (q * second percentage + (1,000,000 - q) * third "
                + "percentage) / 100, where q are those of slot t.", this::oddsOfLaterSlots);
    }

    private void constants() {
        constant("NONE", TelescopeNight.NONE, -1, "there is none.");
        constant("SYNTAX_ERROR", TelescopeNight.SYNTAX_ERROR, -2, "the text does not follow the grammar.");
        constant("VALUE_ERROR", TelescopeNight.VALUE_ERROR, -3, "a number is out of its range.");
        constant("TOO_MANY", TelescopeNight.TOO_MANY, -4, "there are too many targets.");
    }

    private void constant(String name, int value, int due, String meaning) {
        edges.sentence("section 8", meaning, () -> check.is(name, due, () -> value));
    }

    /** The last call that the document speaks of is answered like all others. */
    private void manyCalls() {
        TelescopeNight planned = behind511Calls();
        check.is("call 512 is a plan", 15475000, planned::planValue);
        TelescopeNight undone = behind511Calls();
        check.is("call 512 is an undo", 7, undone::undo);
        TelescopeNight looked = behind511Calls();
        check.is("call 512 is a look", 3, () -> looked.look(true));
        TelescopeNight full = new TelescopeNight();
        for (int i = 0; i < 487; i++) {
            full.errorPosition();
        }
        for (int i = 0; i < 24; i++) {
            Edges.append(full);
        }
        check.is("call 512 is an append", 500, () -> Edges.append(full));
    }

    private static TelescopeNight behind511Calls() {
        TelescopeNight x = Check.nightOf(Edges.PAIR);
        int made = (Edges.PAIR.length() + 19) / 20 + 1;
        for (int i = made; i < 511; i++) {
            x.restart();
        }
        return x;
    }

    private void slots() {
        edges.is("slots at first", 6, Edges.fresh(), x -> x.count(0));
        edges.is("the odds of slot 5 at first", 596875, Edges.fresh(), x -> x.clearOdds(5));
        edges.index("slot at first", Edges.fresh(), 5, TelescopeNight::clearOdds);
        edges.is("the shortest night", 1, Edges.at("night 1;", ""), x -> x.count(0));
        edges.is("its last slot", 500000, Edges.at("night 1;", ""), x -> x.clearOdds(0));
        edges.index("slot of the shortest night", Edges.at("night 1;", ""), 0, TelescopeNight::clearOdds);
        edges.is("the shortest night is over behind one slot", 1, Edges.at("night 1;", ""), x -> x.pass());
        edges.refuses("a second slot", Edges.STATE, Edges.at("night 1;", "pass"), x -> x.pass());
        edges.is("the longest night", 12, Edges.at("night 12;", ""), x -> x.count(0));
        edges.is("its last slot", 599951, Edges.at("night 12;", ""), x -> x.clearOdds(11));
        edges.index("slot of the longest night", Edges.at("night 12;", ""), 11, TelescopeNight::clearOdds);
        edges.text("night 0;", -3, 6);
        edges.text("night 13;", -3, 6);
        String passes = "pass pass pass pass pass pass pass pass pass pass pass";
        edges.is("the longest night is over behind twelve slots", 12, Edges.at("night 12;", passes),
                x -> x.pass());
        edges.refuses("a thirteenth slot", Edges.STATE, Edges.at("night 12;", passes + " pass"),
                x -> x.pass());
    }

    private void teamsAndTargets() {
        String four = "night 2;target 3 80 0 0 0 0 0 1 1;target 2 80 0 0 0 0 0 1 1;"
                + "target 1 80 0 0 0 0 0 1 1;target 0 80 0 0 0 0 0 1 1;";
        edges.is("four teams", 15, Edges.at(four, ""), x -> x.count(2));
        edges.is("four teams in turn", 15, Edges.at(four, ""), x -> x.inTurn());
        edges.index("team", Edges.at(four, ""), 3, TelescopeNight::turnsOf);
        edges.range("night 6;target ", 0, 3, " 0 0 0 0 0 0 1 1;");
        edges.is("six targets", 6, Edges.at("night 2;" + SEEN.repeat(6), ""), x -> x.count(1));
        edges.is("all are seen", 63, Edges.at("night 2;" + SEEN.repeat(6), ""), x -> x.observable(0));
        edges.index("one of six targets", Edges.at("night 2;" + SEEN.repeat(6), ""), 5,
                TelescopeNight::exposures);
        edges.text("night 2;" + SEEN.repeat(7), -4, 8 + 6 * SEEN.length());
        edges.refuses("without targets", Edges.INDEX, Edges.fresh(), x -> x.exposures(0));
    }

    private void numbersOfBodies() {
        edges.range("night 6;moon ", 0, 90, " 0 0 0 0 0;");
        edges.range("night 6;moon 0 ", 0, 30, " 0 0 0 0;");
        edges.range("night 6;moon 0 0 ", -10, 25, " 0 0 0;");
        edges.range("night 6;target 0 ", 0, 90, " 0 0 0 0 0 1 1;");
        edges.range("night 6;target 0 0 ", 0, 30, " 0 0 0 0 1 1;");
        edges.range("night 6;target 0 0 0 ", -10, 25, " 0 0 0 1 1;");
    }

    private void numbersOfTargets() {
        edges.range("night 6;target 0 0 0 0 ", 0, 89, " 0 0 1 1;");
        edges.range("night 6;target 0 0 0 0 0 0 ", 0, 180, " 1 1;");
        edges.range("night 6;target 0 0 0 0 0 0 0 ", 1, 3, " 1;");
        edges.range("night 6;target 0 0 0 0 0 0 0 1 ", 1, 1000, ";");
        String dear = "night 4;target 0 80 0 0 0 0 0 3 1000;";
        edges.is("1000 points for each exposure", 3000, Edges.at(dear, "clear x0 clear x0 clear"),
                x -> x.expose(0));
        edges.refuses("a fourth exposure", Edges.STATE, Edges.at(dear, "clear x0 clear x0 clear x0 clear"),
                x -> x.expose(0));
    }

    private void oneSlot() {
        edges.is("the slot behind an exposure", 1, Edges.at(Edges.PAIR, "clear x0"), x -> x.count(3));
        edges.is("twelve slots are twelve exposures", 12, Edges.at("night 12;"
                + "target 0 80 0 0 0 0 0 3 1;".repeat(4), ""), x -> x.mostExposures(true));
    }

    private void heights() {
        String steep = "night 12;moon 0 30 25 0 0 0;target 0 90 30 -10 0 0 0 1 1;"
                + "target 0 0 30 25 0 0 0 1 1;target 0 90 0 25 89 0 0 1 1;target 0 0 0 0 0 0 0 1 1;";
        edges.is("the lowest moon", -18750, Edges.at(steep, ""), x -> x.moonHeight(0));
        edges.is("the moon in the last slot", -5880, Edges.at(steep, ""), x -> x.moonHeight(11));
        edges.is("a target that has set", -13140, Edges.at(steep, ""), x -> x.height(0, 11));
        edges.is("the lowest target", -18750, Edges.at(steep, ""), x -> x.height(1, 0));
        edges.is("the greatest height", 90, Edges.at(steep, ""), x -> x.height(2, 0));
        edges.is("without a curve it stays", 90, Edges.at(steep, ""), x -> x.height(2, 11));
        edges.is("the height 0", 0, Edges.at(steep, ""), x -> x.height(3, 0));
        String peak = "night 12;target 0 90 1 11 0 0 0 1 1;target 0 90 1 0 0 0 0 1 1;";
        edges.is("the peak in the last slot", 90, Edges.at(peak, ""), x -> x.height(0, 11));
        edges.is("one slot in front of it", 89, Edges.at(peak, ""), x -> x.height(0, 10));
        edges.is("the peak in slot 0", 90, Edges.at(peak, ""), x -> x.height(1, 0));
        edges.is("one slot behind it", 89, Edges.at(peak, ""), x -> x.height(1, 1));
    }

    /** The moon stays at 0, so that distances up to 180 are azimuths. */
    private void azimuthsOfTargets() {
        String text = "night 12;target 0 0 0 0 0 345 0 1 1;target 0 0 0 0 0 344 0 1 1;"
                + "target 0 0 0 0 0 346 0 1 1;target 0 0 0 0 0 359 0 1 1;target 0 0 0 0 0 0 0 1 1;";
        edges.is("345 + 15 is 0", 0, Edges.at(text, ""), x -> x.moonDistance(0, 1));
        edges.is("344 + 15 is 359", 1, Edges.at(text, ""), x -> x.moonDistance(1, 1));
        edges.is("346 + 15 is 1", 1, Edges.at(text, ""), x -> x.moonDistance(2, 1));
        edges.is("359 + 165 is 164", 164, Edges.at(text, ""), x -> x.moonDistance(3, 11));
        edges.is("0 + 165 is 165", 165, Edges.at(text, ""), x -> x.moonDistance(4, 11));
    }

    /** Target 0 is at 0 in slot 0, and at 15 and 165 in the slots 1 and 11. */
    private void azimuthsOfTheMoon() {
        azimuthOfMoon("1 + 359 is 0", 1, 359, 1, 15);
        azimuthOfMoon("0 + 359 is 359", 0, 359, 1, 16);
        azimuthOfMoon("2 + 359 is 1", 2, 359, 1, 14);
        // 359 * 12 is 4308, or 348 behind eleven whole turns.
        azimuthOfMoon("359 + 3949 is 348", 359, 359, 11, 177);
        // Three whole turns and 20: 100 * 11 = 1100.
        azimuthOfMoon("0 + 1100 is 20", 0, 100, 11, 145);
        azimuthOfMoon("a moon that does not move", 359, 0, 11, 166);
        edges.range("night 6;moon 0 0 0 ", 0, 359, " 0 0;");
        edges.range("night 6;moon 0 0 0 0 ", 0, 359, " 0;");
        edges.range("night 6;target 0 0 0 0 0 ", 0, 359, " 0 1 1;");
    }

    private void azimuthOfMoon(String what, int azimuth, int speed, int slot, int due) {
        String text = "night 12;moon 0 0 0 " + azimuth + " " + speed + " 0;target 0 0 0 0 0 0 0 1 1;";
        edges.is(what, due, Edges.at(text, ""), x -> x.moonDistance(0, slot));
    }

    private void firstMoon() {
        edges.is("peak 0, curve 1, transit -10", -100, Edges.fresh(), x -> x.moonHeight(0));
        edges.is("in slot 5", -225, Edges.fresh(), x -> x.moonHeight(5));
        edges.is("of a text without a moon", -441, Edges.at("night 12;", ""), x -> x.moonHeight(11));
        String text = "night 12;target 0 0 0 0 0 0 180 1 1;";
        edges.is("azimuth 0", 0, Edges.at(text, ""), x -> x.moonDistance(0, 0));
        edges.is("speed 0", 165, Edges.at(text, ""), x -> x.moonDistance(0, 11));
        edges.is("behind another moon", -100, () -> {
            TelescopeNight x = Check.nightOf("night 6;moon 90 0 0 90 90 100;");
            Check.load(x, "night 6;");
            return x;
        }, x -> x.moonHeight(0));
    }

    private void distances() {
        int[][] cases = {{0, 0, 0}, {180, 0, 180}, {0, 180, 180}, {179, 0, 179}, {181, 0, 179},
            {0, 181, 179}, {359, 0, 1}, {0, 359, 1}, {359, 359, 0}, {1, 0, 1}, {90, 271, 179}};
        for (int[] one : cases) {
            String text = "night 1;moon 0 0 0 " + one[0] + " 0 0;target 0 0 0 0 0 " + one[1] + " 0 1 1;";
            edges.is("the moon at " + one[0] + ", the target at " + one[1], one[2], Edges.at(text, ""),
                    x -> x.moonDistance(0, 0));
        }
    }

    private void leastHeights() {
        // The heights are 60, 59, 56.
        String text = "night 3;target 0 60 1 0 59 0 0 1 1;target 0 60 1 0 60 0 0 1 1;"
                + "target 0 60 1 0 61 0 0 1 1;target 0 0 0 0 0 0 0 1 1;target 0 0 1 0 0 0 0 1 1;"
                + "target 0 89 0 0 89 0 0 1 1;";
        int[] due = {3, 1, 0, 7, 1, 7};
        for (int target = 0; target < due.length; target++) {
            int t = target;
            edges.is("window of target " + t, due[t], Edges.at(text, ""), x -> x.window(t));
        }
        edges.is("88 is below 89", 0, Edges.at("night 1;target 0 88 0 0 89 0 0 1 1;", ""),
                x -> x.window(0));
    }

    /** The target stands beside the moon, which is at 1, 0 and -3. */
    private void moonAtTheGround() {
        String target = "target 0 80 0 0 0 0 180 1 1;";
        edges.is("1, 0, -3", 6, Edges.at("night 3;moon 1 1 0 0 15 100;" + target, ""), x -> x.window(0));
        edges.is("0 for ever", 7, Edges.at("night 3;moon 0 0 0 0 15 100;" + target, ""),
                x -> x.window(0));
        edges.is("1 for ever", 0, Edges.at("night 3;moon 1 0 0 0 15 100;" + target, ""),
                x -> x.window(0));
    }

    private void moonDistances() {
        // The distance is 50.
        int[][] cases = {{50, 100, 1}, {51, 100, 0}, {49, 100, 1}, {180, 0, 1}, {0, 100, 1},
            {101, 50, 1}, {102, 50, 0}, {100, 50, 1}, {103, 49, 1}, {105, 49, 0}, {180, 28, 1},
            {180, 29, 0}, {180, 100, 0}};
        for (int[] one : cases) {
            String text = "night 1;moon 90 0 0 0 0 " + one[1] + ";target 0 80 0 0 0 50 " + one[0] + " 1 1;";
            edges.is("50 away with the distance " + one[0] + " and the brightness " + one[1], one[2],
                    Edges.at(text, ""), x -> x.window(0));
        }
        String opposite = "night 1;moon 90 0 0 0 0 100;target 0 80 0 0 0 180 180 1 1;";
        edges.is("180 away is enough for 180", 1, Edges.at(opposite, ""), x -> x.window(0));
        String beside = "night 1;moon 90 0 0 0 0 100;target 0 80 0 0 0 179 180 1 1;";
        edges.is("179 away is not", 0, Edges.at(beside, ""), x -> x.window(0));
        edges.range("night 6;moon 0 0 0 0 0 ", 0, 100, ";");
    }

    private void firstOdds() {
        edges.is("50 percent", 500000, Edges.fresh(), x -> x.clearOdds(0));
        edges.is("80 and 30 percent", 550000, Edges.fresh(), x -> x.clearOdds(1));
        edges.is("of a text without a sky", 500000, Edges.at("night 2;", ""), x -> x.clearOdds(0));
        edges.is("80 percent", 400000, Edges.fresh(), x -> x.clearRun(0, 1));
        edges.is("behind another sky", 550000, () -> {
            TelescopeNight x = Check.nightOf("night 6;sky 1 2 3;");
            Check.load(x, "night 6;");
            return x;
        }, x -> x.clearOdds(1));
    }

    private void roundedOdds() {
        // 330000; 327800; 326348; 325389.68; 324756.74 (of 325389); 324338.96 (of 324756).
        int[] due = {330000, 327800, 326348, 325389, 324756, 324338};
        for (int slot = 0; slot < due.length; slot++) {
            int s = slot;
            edges.is("slot " + s, due[s], Edges.at("night 6;sky 33 77 11;", ""), x -> x.clearOdds(s));
        }
    }

    private void oddsOfLaterSlots() {
        // The three percentages, and the odds of the slots 1 and 2.
        int[][] cases = {{0, 0, 0, 0, 0}, {0, 100, 0, 0, 0}, {0, 0, 100, 1000000, 0},
            {0, 100, 100, 1000000, 1000000}, {100, 0, 0, 0, 0}, {100, 100, 0, 1000000, 1000000},
            {100, 0, 100, 0, 1000000}, {1, 1, 0, 100, 1}, {0, 99, 1, 10000, 19800},
            {99, 1, 99, 19800, 970596}, {50, 80, 30, 550000, 575000}};
        for (int[] one : cases) {
            String text = "night 3;sky " + one[0] + " " + one[1] + " " + one[2] + ";";
            edges.is("slot 1 of " + text, one[3], Edges.at(text, ""), x -> x.clearOdds(1));
            edges.is("slot 2 of " + text, one[4], Edges.at(text, ""), x -> x.clearOdds(2));
        }
        // 10000, 100, 1, 0.01.
        edges.is("down to 0", 0, Edges.at("night 4;sky 1 1 0;", ""), x -> x.clearOdds(3));
        edges.is("what was seen does not matter", 550000, Edges.at("night 2;", "cloudy pass"),
                x -> x.clearOdds(1));
    }

    private void oddsOfSlot0() {
        edges.range("night 6;sky ", 0, 100, " 0 0;");
        edges.range("night 6;sky 0 ", 0, 100, " 0;");
        edges.range("night 6;sky 0 0 ", 0, 100, ";");
        edges.is("0 percent", 0, Edges.at("night 1;sky 0 100 100;", ""), x -> x.clearOdds(0));
        edges.is("1 percent", 10000, Edges.at("night 1;sky 1 100 100;", ""), x -> x.clearOdds(0));
        edges.is("99 percent", 990000, Edges.at("night 1;sky 99 0 0;", ""), x -> x.clearOdds(0));
        edges.is("100 percent", 1000000, Edges.at("night 1;sky 100 0 0;", ""), x -> x.clearOdds(0));
    }
}
