import java.util.function.Supplier;

/** The boundary cases of turns, and of the night as it goes on. */
final class NightEdges {
    /** The teams 0, 1 and 3, each with a target that can always be observed and wants three. */
    private static final String THREE = "night 6;target 0 80 0 0 0 0 0 3 1;"
            + "target 1 80 0 0 0 0 0 3 2;target 3 80 0 0 0 0 0 3 4;";
    /** Target 0 of team 0 is seen in slot 1 alone, target 1 of team 1 always, target 2 never. */
    private static final String SELDOM = "night 3;target 0 80 30 1 80 0 0 1 10;"
            + "target 1 80 0 0 0 0 0 2 7;target 1 0 0 0 89 0 0 1 5;";
    /** One team could fill all twelve slots with exposures of 1000 points. */
    private static final String FULL = "night 12;" + "target 3 80 0 0 0 0 0 3 1000;".repeat(4);
    private static final String ALL_OF_FULL = "clear x0 clear x0 clear x0 clear x1 clear x1 clear x1 "
            + "clear x2 clear x2 clear x2 clear x3 clear x3 clear x3";
    private static final String OVER = "pass pass pass pass";

    private final Edges edges;
    private final Check check;

    NightEdges(Edges edges) {
        this.edges = edges;
        this.check = edges.check;
    }

    void run() {
        turns();
        night();
        look();
        expose();
        passAndRestart();
        waive();
        askTurns();
        past();
    }

    private void turns() {
        edges.sentence("section 3", "An exposure is a turn of the target's team.", this::turnsAreExposures);
        edges.sentence("section 3", "A team is in turn if it has not waived and no other team that has not "
                + "waived has had fewer turns.", this::fewestTurns);
        edges.sentence("section 3", "Only teams that have targets count at all", this::teamsWithTargets);
        edges.sentence("section 3", "a team that has waived takes no more turns.", this::noMoreTurns);
    }

    private void night() {
        edges.sentence("section 4", "The night has a present slot, 0 at first; behind the last slot the "
                + "night is over (the present slot is the number of slots then).", this::presentSlots);
        edges.sentence("section 4", "For the present slot the sky is unknown, until it is looked at.",
                this::unknownSky);
        edges.sentence("section 4", "If it is clear, an exposure can be made: of a target that can be "
                + "observed in this slot, has fewer exposures than wanted, and whose team is in turn.",
                this::possibleExposures);
        edges.sentence("section 4", "Then the next slot is the present one, and its sky is unknown.",
                this::nextSlot);
        edges.sentence("section 4", "The points of all exposures are added up.", this::points);
    }

    private void look() {
        edges.sentence("promise 15", "Returns the targets of which an exposure can be made, as a bit mask.",
                this::masksOfLook);
        edges.sentence("promise 15", "Throws `IllegalStateException` if the night is over, or the sky is "
                + "known already", this::noLook);
    }

    private void expose() {
        edges.sentence("promise 16", "Makes an exposure; the next slot is the present one then.",
                this::nextSlot);
        edges.sentence("promise 16", "Returns the points so far.", this::points);
        edges.sentence("promise 16", "Throws `IndexOutOfBoundsException` if the target does not exist",
                this::exposeNoTarget);
        edges.sentence("promise 16", "Throws `IllegalStateException` if the sky of the present slot is not "
                + "known to be clear, or an exposure of this target cannot be made",
                () -> impossibleExposures(TelescopeNight::expose));
    }

    private void passAndRestart() {
        edges.sentence("promise 17", "Lets the present slot pass without an exposure; the next slot is the "
                + "present one then. (The sky of a slot that was not looked at stays unknown.)", this::passes);
        edges.sentence("promise 17", "Returns the present slot.", this::slotsOfPass);
        edges.sentence("promise 17", "Throws `IllegalStateException` if the night is over", this::noPass);
        edges.sentence("promise 19", "Begins the night again: slot 0, no exposures, no points, nobody has "
                + "waived.", this::restarts);
    }

    private void waive() {
        edges.sentence("promise 18", "Lets a team waive all further turns.", this::noMoreTurns);
        edges.sentence("promise 18", "Returns the teams that are in turn then, as a bit mask.",
                this::masksOfWaive);
        edges.sentence("promise 18", "Throws `IndexOutOfBoundsException` if the team does not exist",
                this::waiveNoTeam);
        edges.sentence("promise 18", "Throws `IllegalStateException` if it has no targets, or has waived "
                + "already", this::noWaive);
    }

    private void askTurns() {
        edges.sentence("promise 20", "Returns the teams as a bit mask.", this::masksOfTeams);
        edges.sentence("promise 21", "Returns the number of turns.", this::turnsAreExposures);
        edges.sentence("promise 21", "Throws `IndexOutOfBoundsException` if the team does not exist",
                () -> edges.teams(TelescopeNight::turnsOf));
        edges.sentence("promise 22", "Returns 0 to the number that is wanted.", this::exposuresUpToWanted);
        edges.sentence("promise 22", "Throws `IndexOutOfBoundsException` if the target does not exist",
                () -> edges.targets(TelescopeNight::exposures));
    }

    private void past() {
        edges.sentence("promise 23", "0: the target that was exposed, NONE without; 1: the sky (0 not looked "
                + "at, 1 clear, 2 cloudy)", this::whatHappened);
        edges.sentence("promise 23", "a slot in front of the present one", this::slotsInFront);
        edges.sentence("promise 23", "Throws `IndexOutOfBoundsException` if the slot is not over or does not "
                + "exist", this::notOver);
        edges.sentence("promise 23", "Throws `IllegalArgumentException` for any other what",
                this::otherWhats);
    }

    private static Supplier<TelescopeNight> pair(String moves) {
        return Edges.at(Edges.PAIR, moves);
    }

    private static Supplier<TelescopeNight> three(String moves) {
        return Edges.at(THREE, moves);
    }

    private static Supplier<TelescopeNight> seldom(String moves) {
        return Edges.at(SELDOM, moves);
    }

    // ---- turns

    private void turnsAreExposures() {
        edges.is("none at first", 0, three(""), x -> x.turnsOf(0));
        edges.is("one exposure", 1, three("clear x0"), x -> x.turnsOf(0));
        edges.is("of another team", 0, three("clear x0"), x -> x.turnsOf(1));
        edges.is("a slot that passes is no turn", 0, three("clear pass"), x -> x.turnsOf(0));
        edges.is("nor is a waiver", 0, three("w0"), x -> x.turnsOf(0));
        edges.is("but the turns stay behind it", 1, three("clear x0 w0"), x -> x.turnsOf(0));
        edges.is("a team without targets", 0, three("clear x0 clear x1 clear x2"), x -> x.turnsOf(2));
        edges.is("of an empty night", 0, Edges.fresh(), x -> x.turnsOf(3));
        String twoTargets = "night 3;target 2 80 0 0 0 0 0 1 1;target 2 80 0 0 0 0 0 1 1;";
        edges.is("two targets of a team", 2, Edges.at(twoTargets, "clear x0 clear x1"),
                x -> x.turnsOf(2));
        edges.is("the most", 12, Edges.at(FULL, ALL_OF_FULL), x -> x.turnsOf(3));
        edges.is("behind a restart", 0, three("clear x0 restart"), x -> x.turnsOf(0));
    }

    private void fewestTurns() {
        inTurn("", 11);
        inTurn("clear x0", 10);
        inTurn("clear x0 clear x2", 2);
        inTurn("clear x0 clear x2 clear x1", 11);
        inTurn("clear x0 clear x2 clear x1 clear x2", 3);
        inTurn("w0", 10);
        inTurn("clear x0 w1", 8);
        inTurn("clear x0 clear x2 w1", 9);
        inTurn("clear x0 w1 w3", 1);
        inTurn("clear x0 w0", 10);
        inTurn("clear x0 w0 w1", 8);
        // A team that has waived with the fewest turns holds nobody up, as often as that may be.
        inTurn("w0 w1 clear x2 clear x2 clear x2", 8);
        inTurn("w0 w1 w3", 0);
        // Nor does the sky matter, or that the night is over.
        inTurn("cloudy", 11);
        inTurn("clear x0 pass pass pass pass pass", 10);
    }

    private void inTurn(String moves, int due) {
        edges.is("in turn behind '" + moves + "'", due, three(moves), x -> x.inTurn());
    }

    private void teamsWithTargets() {
        edges.is("without targets nobody is in turn", 0, Edges.fresh(), x -> x.inTurn());
        edges.is("team 2 has none", 11, three(""), x -> x.inTurn());
        edges.is("and holds nobody up", 11, three("clear x0 clear x1 clear x2"), x -> x.inTurn());
        edges.is("a team whose target is never seen counts", 2,
                Edges.at("night 2;target 0 80 0 0 0 0 0 2 1;target 1 0 0 0 1 0 0 1 1;", "clear x0"),
                x -> x.inTurn());
        edges.is("so does a team that has all exposures", 2, pair("clear x1 clear x0 clear x0"),
                x -> x.inTurn());
        edges.is("a team of an earlier night does not", 2, () -> {
            TelescopeNight x = Check.nightOf(THREE);
            Check.load(x, "night 2;target 1 80 0 0 0 0 0 2 1;");
            return x;
        }, x -> x.inTurn());
    }

    private void noMoreTurns() {
        edges.is("before it", 7, three(""), x -> x.look(true));
        edges.is("its target is out", 6, three("w0"), x -> x.look(true));
        edges.refuses("no exposure of it", Edges.STATE, three("w0 clear"), x -> x.expose(0));
        edges.refuses("nor behind a look", Edges.STATE, three("clear w0"), x -> x.expose(0));
        edges.is("the others go on", 2, three("clear w0"), x -> x.expose(1));
        edges.is("without it", 6, three("w0 clear x1 clear x2"), x -> x.look(true));
        edges.is("all but one", 4, three("w0 w1 clear x2 clear x2"), x -> x.look(true));
        edges.is("all have waived", 0, three("w0 w1 w3"), x -> x.look(true));
        edges.is("no plan has it", 6, three("w0"), x -> x.mostExposures(true));
        edges.is("no plan at all", 0, three("w0 w1 w3"), x -> x.mostExposures(false));
        edges.is("in later slots, too", 6, three("w0 pass pass"), x -> x.look(true));
        edges.is("until the night begins again", 7, three("w0 restart"), x -> x.look(true));
    }

    // ---- the night

    private void presentSlots() {
        edges.is("at first", 0, Edges.fresh(), x -> x.count(3));
        edges.is("behind a load", 0, pair(""), x -> x.count(3));
        edges.is("the last slot", 3, pair("pass pass pass"), x -> x.count(3));
        edges.is("it can be looked at", 3, pair("pass pass pass"), x -> x.look(true));
        edges.is("behind the last slot", 4, pair(OVER), x -> x.count(3));
        edges.is("behind an exposure in the last slot", 4, pair("pass pass pass clear x0"),
                x -> x.count(3));
        edges.is("the only slot", 0, Edges.at("night 1;", ""), x -> x.count(3));
        edges.is("behind the only slot", 1, Edges.at("night 1;", "pass"), x -> x.count(3));
        edges.is("behind twelve slots", 12, Edges.at(FULL, ALL_OF_FULL), x -> x.count(3));
        edges.refuses("look", Edges.STATE, Edges.at(FULL, ALL_OF_FULL), x -> x.look(true));
        edges.refuses("pass", Edges.STATE, Edges.at(FULL, ALL_OF_FULL), x -> x.pass());
        edges.refuses("expose", Edges.STATE, Edges.at(FULL, ALL_OF_FULL), x -> x.expose(0));
        edges.is("behind six slots of the first night", 6, () -> {
            TelescopeNight x = new TelescopeNight();
            for (int slot = 0; slot < 6; slot++) {
                x.pass();
            }
            return x;
        }, x -> x.count(3));
    }

    private void unknownSky() {
        sky("", 0);
        sky("clear", 1);
        sky("cloudy", 2);
        sky("clear pass", 0);
        sky("cloudy pass", 0);
        sky("clear x0", 0);
        sky("clear w0", 1);
        sky("cloudy restart", 0);
        sky("clear undo", 0);
        sky("pass pass pass clear", 1);
        sky("pass pass pass clear pass", 0);
        sky("pass pass pass cloudy pass", 0);
    }

    private void sky(String moves, int due) {
        edges.is("sky behind '" + moves + "'", due, pair(moves), x -> x.count(5));
    }

    private void possibleExposures() {
        edges.is("seen, wanted and in turn", 10, pair("clear"), x -> x.expose(0));
        edges.is("seen in slot 1 alone", 10, seldom("pass clear"), x -> x.expose(0));
        edges.is("in the last slot", 7, seldom("pass pass clear"), x -> x.expose(1));
        edges.is("the last one that is wanted", 27, pair("clear x0 clear x1 clear"), x -> x.expose(0));
        impossibleExposures(TelescopeNight::expose);
    }

    /** Each reason alone why an exposure cannot be made. */
    private void impossibleExposures(Edges.IndexUse use) {
        edges.refuses("an unknown sky", Edges.STATE, pair(""), x -> use.on(x, 0));
        edges.refuses("a cloudy sky", Edges.STATE, pair("cloudy"), x -> use.on(x, 0));
        edges.refuses("a clear sky in the slot before", Edges.STATE, pair("clear pass"), x -> use.on(x, 0));
        edges.refuses("an unknown sky behind an exposure", Edges.STATE, pair("clear x0"),
                x -> use.on(x, 1));
        edges.refuses("one slot before it is seen", Edges.STATE, seldom("clear"), x -> use.on(x, 0));
        edges.refuses("one slot behind it", Edges.STATE, seldom("pass pass clear"), x -> use.on(x, 0));
        edges.refuses("never seen", Edges.STATE, seldom("clear"), x -> use.on(x, 2));
        edges.refuses("one exposure is wanted", Edges.STATE, pair("clear x1 clear x0 clear"),
                x -> use.on(x, 1));
        edges.refuses("two exposures are wanted", Edges.STATE, pair("clear x0 clear x1 clear x0 clear"),
                x -> use.on(x, 0));
        edges.refuses("another team has had fewer turns", Edges.STATE, pair("clear x0 clear"),
                x -> use.on(x, 0));
        edges.refuses("it has waived", Edges.STATE, pair("clear w0"), x -> use.on(x, 0));
        edges.refuses("the night is over", Edges.STATE, pair(OVER), x -> use.on(x, 0));
        edges.refuses("the night is over behind a clear slot", Edges.STATE,
                pair("pass pass pass clear pass"), x -> use.on(x, 0));
    }

    private void nextSlot() {
        edges.is("slot", 1, pair("clear x0"), x -> x.count(3));
        edges.is("sky", 0, pair("clear x0"), x -> x.count(5));
        edges.is("exposures", 1, pair("clear x0"), x -> x.count(6));
        edges.is("exposures of the target", 1, pair("clear x0"), x -> x.exposures(0));
        edges.is("exposures of the other one", 0, pair("clear x0"), x -> x.exposures(1));
        edges.is("it can be looked at", 2, pair("clear x0"), x -> x.look(true));
        edges.is("it may be cloudy", 0, pair("clear x0"), x -> x.look(false));
        edges.is("behind the last slot", 4, pair("pass pass pass clear x1"), x -> x.count(3));
        edges.is("without a sky", 0, pair("pass pass pass clear x1"), x -> x.count(5));
        edges.refuses("which cannot be looked at", Edges.STATE, pair("pass pass pass clear x1"),
                x -> x.look(true));
    }

    private void points() {
        edges.is("none at first", 0, pair(""), x -> x.count(4));
        edges.is("one exposure", 10, pair("clear"), x -> x.expose(0));
        edges.is("two exposures", 17, pair("clear x0 clear"), x -> x.expose(1));
        edges.is("three exposures", 27, pair("clear x0 clear x1 clear"), x -> x.expose(0));
        edges.is("the least value", 1, three("clear"), x -> x.expose(0));
        edges.is("slots that pass give nothing", 10, pair("clear x0 clear pass"), x -> x.count(4));
        edges.is("the points of a team that has waived stay", 10, pair("clear x0 w0"), x -> x.count(4));
        String allButOne = ALL_OF_FULL.substring(0, ALL_OF_FULL.length() - 3);
        edges.is("the most points", 12000, Edges.at(FULL, allButOne), x -> x.expose(3));
    }

    // ---- look, expose, pass, waive, restart

    private void masksOfLook() {
        edges.is("cloudy", 0, pair(""), x -> x.look(false));
        edges.is("clear", 3, pair(""), x -> x.look(true));
        edges.is("without targets", 0, Edges.fresh(), x -> x.look(true));
        edges.is("not seen", 2, seldom(""), x -> x.look(true));
        edges.is("seen", 3, seldom("pass"), x -> x.look(true));
        edges.is("not in turn", 2, pair("clear x0"), x -> x.look(true));
        edges.is("no more are wanted", 1, pair("clear x1 clear x0"), x -> x.look(true));
        edges.is("none is wanted", 0, pair("clear x0 clear x1 clear x0"), x -> x.look(true));
        edges.is("waived", 2, pair("w0"), x -> x.look(true));
        edges.is("the last slot", 3, pair("pass pass pass"), x -> x.look(true));
        String six = "night 1;" + "target 0 80 0 0 0 0 0 1 1;".repeat(6);
        edges.is("all six", 63, Edges.at(six, ""), x -> x.look(true));
        edges.is("all six, cloudy", 0, Edges.at(six, ""), x -> x.look(false));
        String last = "night 1;" + "target 0 0 0 0 1 0 0 1 1;".repeat(5) + "target 0 80 0 0 0 0 0 1 1;";
        edges.is("the last one of six", 32, Edges.at(last, ""), x -> x.look(true));
    }

    private void noLook() {
        for (boolean clear : new boolean[] {true, false}) {
            edges.refuses("known to be clear", Edges.STATE, pair("clear"), x -> x.look(clear));
            edges.refuses("known to be cloudy", Edges.STATE, pair("cloudy"), x -> x.look(clear));
            edges.refuses("over", Edges.STATE, pair(OVER), x -> x.look(clear));
            edges.refuses("over behind an exposure", Edges.STATE, pair("pass pass pass clear x0"),
                    x -> x.look(clear));
            edges.refuses("the only slot is over", Edges.STATE, Edges.at("night 1;", "pass"),
                    x -> x.look(clear));
            edges.refuses("a look and a waiver", Edges.STATE, pair("clear w0"), x -> x.look(clear));
        }
        edges.is("behind an undo it is unknown again", 3, pair("cloudy undo"), x -> x.look(true));
    }

    private void exposeNoTarget() {
        edges.targets(TelescopeNight::expose);
        edges.refuses("an unknown sky matters less", Edges.INDEX, pair(""), x -> x.expose(2));
        edges.refuses("clouds matter less", Edges.INDEX, pair("cloudy"), x -> x.expose(-1));
        edges.refuses("the end of the night matters less", Edges.INDEX, pair(OVER), x -> x.expose(2));
        edges.refuses("under a clear sky", Edges.INDEX, pair("clear"), x -> x.expose(2));
    }

    private void passes() {
        edges.is("no exposure", 0, pair("clear pass"), x -> x.count(6));
        edges.is("no points", 0, pair("clear pass"), x -> x.count(4));
        edges.is("none in the past", -1, pair("clear pass"), x -> x.past(0, 0));
        edges.is("the next sky is unknown", 0, pair("clear pass"), x -> x.count(5));
        edges.is("not looked at", 0, pair("pass"), x -> x.past(0, 1));
        edges.is("not looked at, and later slots were", 0, pair("pass clear pass cloudy pass"),
                x -> x.past(0, 1));
        edges.is("it was clear", 1, pair("clear pass"), x -> x.past(0, 1));
        edges.is("it was cloudy", 2, pair("cloudy pass"), x -> x.past(0, 1));
        edges.is("the last slot", 0, pair(OVER), x -> x.past(3, 1));
    }

    private void slotsOfPass() {
        TelescopeNight x = Check.nightOf("night 12;");
        for (int slot = 1; slot <= 12; slot++) {
            check.is("pass to slot " + slot, slot, x::pass);
        }
        edges.is("the only slot", 1, Edges.at("night 1;", ""), y -> y.pass());
        edges.is("under a clear sky", 1, pair("clear"), y -> y.pass());
        edges.is("under a cloudy sky", 1, pair("cloudy"), y -> y.pass());
    }

    private void noPass() {
        edges.is("the last slot passes", 4, pair("pass pass pass"), x -> x.pass());
        edges.refuses("behind it", Edges.STATE, pair(OVER), x -> x.pass());
        edges.refuses("behind an exposure", Edges.STATE, pair("pass pass pass clear x0"), x -> x.pass());
        edges.refuses("behind the only slot", Edges.STATE, Edges.at("night 1;", "pass"), x -> x.pass());
        edges.refuses("behind twelve slots", Edges.STATE, Edges.at(FULL, ALL_OF_FULL), x -> x.pass());
    }

    private void restarts() {
        String begun = Edges.now(pair("").get());
        for (String moves : new String[] {"", "clear", "cloudy", "pass", "clear x0", "clear x0 cloudy pass",
            "w0", "clear x0 w0 w1 clear", OVER, "clear x0 clear x1 clear x0 clear pass", "restart"}) {
            TelescopeNight x = pair(moves).get();
            x.restart();
            check.same("restart behind '" + moves + "'", Edges.now(x), begun);
            check.refuses("no slot is over", Edges.INDEX, () -> x.past(0, 0));
        }
        TelescopeNight first = new TelescopeNight();
        first.pass();
        first.restart();
        check.same("the first night", Edges.now(first), Edges.now(new TelescopeNight()));
    }

    private void masksOfWaive() {
        edges.is("the others", 10, three(""), x -> x.waive(0));
        edges.is("the last team", 3, three(""), x -> x.waive(3));
        edges.is("one is left", 8, three("w0"), x -> x.waive(1));
        edges.is("nobody is left", 0, three("w0 w1"), x -> x.waive(3));
        edges.is("one with more turns comes in", 9, three("clear x0 clear x2"), x -> x.waive(1));
        edges.is("one that was not in turn", 10, three("clear x0"), x -> x.waive(0));
        edges.is("under a clear sky", 2, pair("clear"), x -> x.waive(0));
        edges.is("under a cloudy sky", 2, pair("cloudy"), x -> x.waive(0));
        edges.is("when the night is over", 2, pair(OVER), x -> x.waive(0));
        edges.is("with all its exposures", 1, pair("clear x1"), x -> x.waive(1));
    }

    private void waiveNoTeam() {
        edges.teams(TelescopeNight::waive);
        edges.refuses("team 4 when all have waived", Edges.INDEX, three("w0 w1 w3"), x -> x.waive(4));
    }

    private void noWaive() {
        edges.refuses("no targets", Edges.STATE, three(""), x -> x.waive(2));
        edges.refuses("no targets at all", Edges.STATE, Edges.fresh(), x -> x.waive(0));
        edges.refuses("waived already", Edges.STATE, three("w0"), x -> x.waive(0));
        edges.refuses("waived in an earlier slot", Edges.STATE, three("w0 pass clear x1"), x -> x.waive(0));
        edges.refuses("all have waived", Edges.STATE, three("w0 w1 w3"), x -> x.waive(3));
        edges.refuses("waived, and the night is over", Edges.STATE, pair("w0 " + OVER), x -> x.waive(0));
        edges.is("again behind a restart", 10, three("w0 restart"), x -> x.waive(0));
        edges.is("again behind an undo", 10, three("w0 undo"), x -> x.waive(0));
        edges.refuses("a team of an earlier night", Edges.STATE, () -> {
            TelescopeNight x = Check.nightOf(THREE);
            Check.load(x, "night 2;target 1 80 0 0 0 0 0 2 1;");
            return x;
        }, x -> x.waive(0));
    }

    // ---- turns, exposures and the past

    private void masksOfTeams() {
        String four = "night 2;target 3 80 0 0 0 0 0 1 1;target 2 80 0 0 0 0 0 1 1;"
                + "target 1 80 0 0 0 0 0 1 1;target 0 80 0 0 0 0 0 1 1;";
        edges.is("none", 0, Edges.fresh(), x -> x.inTurn());
        edges.is("all four", 15, Edges.at(four, ""), x -> x.inTurn());
        edges.is("the first one", 1, Edges.at("night 1;target 0 0 0 0 1 0 0 1 1;", ""), x -> x.inTurn());
        edges.is("the last one", 8, Edges.at("night 1;target 3 0 0 0 1 0 0 1 1;", ""), x -> x.inTurn());
        edges.is("all but the last one", 7, Edges.at(four, "clear x0"), x -> x.inTurn());
        edges.is("over", 3, Edges.at(four, "clear x0 clear x1"), x -> x.inTurn());
        edges.is("all have waived", 0, Edges.at(four, "w0 w1 w2 w3"), x -> x.inTurn());
        fewestTurns();
    }

    private void exposuresUpToWanted() {
        for (int wanted = 1; wanted <= 3; wanted++) {
            TelescopeNight x = Check.nightOf("night 12;target 0 80 0 0 0 0 0 " + wanted + " 1;");
            for (int made = 0; made < wanted; made++) {
                check.is(made + " of " + wanted, made, () -> x.exposures(0));
                x.look(true);
                x.expose(0);
            }
            check.is("all of " + wanted, wanted, () -> x.exposures(0));
            check.is("none can be made", 0, () -> x.look(true));
            check.refuses("one more than " + wanted, Edges.STATE, () -> x.expose(0));
            check.is("still all of " + wanted, wanted, () -> x.exposures(0));
        }
        edges.is("the last one of six", 1, Edges.at("night 1;" + "target 0 80 0 0 0 0 0 3 1;".repeat(6),
                "clear x5"), x -> x.exposures(5));
        edges.is("the one in front of it", 0, Edges.at("night 1;" + "target 0 80 0 0 0 0 0 3 1;".repeat(6),
                "clear x5"), x -> x.exposures(4));
    }

    private void whatHappened() {
        Supplier<TelescopeNight> over = pair("clear x1 cloudy pass pass clear pass");
        int[] targets = {1, -1, -1, -1};
        int[] skies = {1, 2, 0, 1};
        for (int slot = 0; slot < targets.length; slot++) {
            int s = slot;
            edges.is("target of slot " + s, targets[s], over, x -> x.past(s, 0));
            edges.is("sky of slot " + s, skies[s], over, x -> x.past(s, 1));
        }
        edges.is("the lowest target", 0, pair("clear x0"), x -> x.past(0, 0));
        edges.is("an earlier night is forgotten", -1, pair("clear x0 restart pass"), x -> x.past(0, 0));
        edges.is("and its sky", 0, pair("clear x0 restart pass"), x -> x.past(0, 1));
        edges.is("the last one of twelve", 3, Edges.at(FULL, ALL_OF_FULL), x -> x.past(11, 0));
        edges.is("the first one of twelve", 0, Edges.at(FULL, ALL_OF_FULL), x -> x.past(0, 0));
    }

    private void slotsInFront() {
        edges.refuses("no slot at first", Edges.INDEX, pair(""), x -> x.past(0, 0));
        edges.is("one slot", -1, pair("pass"), x -> x.past(0, 0));
        edges.refuses("the present one", Edges.INDEX, pair("pass"), x -> x.past(1, 0));
        edges.refuses("the present one, looked at", Edges.INDEX, pair("pass clear"), x -> x.past(1, 1));
        edges.is("the last slot", -1, pair(OVER), x -> x.past(3, 0));
    }

    private void notOver() {
        edges.index("slot that is over", pair("pass pass"), 1, (x, index) -> x.past(index, 0));
        edges.index("sky that is over", pair("pass pass"), 1, (x, index) -> x.past(index, 1));
        edges.index("slot of a night that is over", pair(OVER), 3, (x, index) -> x.past(index, 0));
        edges.index("one of twelve", Edges.at(FULL, ALL_OF_FULL), 11, (x, index) -> x.past(index, 1));
        edges.refuses("behind a restart", Edges.INDEX, pair("pass pass restart"), x -> x.past(0, 0));
        edges.refuses("behind an undo", Edges.INDEX, pair("pass pass undo"), x -> x.past(1, 0));
        edges.refuses("the only slot", Edges.INDEX, Edges.at("night 1;", "cloudy"), x -> x.past(0, 1));
    }

    private void otherWhats() {
        for (int what : new int[] {-1, 2, 3, Edges.LEAST, Edges.MOST}) {
            edges.refuses("what " + what, Edges.ARGUMENT, pair("clear x0 clear"), x -> x.past(0, what));
            edges.refuses("the slot comes first, with " + what, Edges.INDEX, pair("clear x0 clear"),
                    x -> x.past(1, what));
        }
    }
}
