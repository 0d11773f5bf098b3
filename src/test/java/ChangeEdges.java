import java.util.function.Supplier;

/** The boundary cases of changes that are undone, and of exceptions. */
final class ChangeEdges {
    private static final String LONG = "night 12;target 0 80 0 0 0 0 0 1 5;";

    private final Edges edges;
    private final Check check;

    ChangeEdges(Edges edges) {
        this.edges = edges;
        this.check = edges.check;
    }

    void run() {
        changes();
        exceptions();
        undo();
    }

    private void changes() {
        edges.sentence("section 7", "The changes are all calls of load, look, expose, pass, waive and "
                + "restart that succeed", this::sixChanges);
        edges.sentence("section 7", "(a load with an error is no change).", this::loadsWithErrors);
        edges.sentence("section 7", "The latest 8 changes can be undone.", this::latestEight);
        edges.sentence("section 7", "The text buffer is not affected by this.", this::bufferStays);
    }

    private void exceptions() {
        edges.sentence("section 8", "A method that throws an exception changes nothing.",
                this::nothingChanges);
        edges.sentence("section 8", "If several exceptions apply, the one named first is thrown.",
                this::severalExceptions);
        edges.sentence("section 8", "An IndexOutOfBoundsException is thrown if a target, team (0 to 3), slot "
                + "or other index does not exist.", this::indices);
    }

    private void undo() {
        edges.sentence("promise 39", "Undoes the latest change that has not been undone.",
                this::latestChanges);
        edges.sentence("promise 39", "Returns the number of changes that can still be undone.",
                this::changesLeft);
        edges.sentence("promise 39", "Throws `IllegalStateException` if there is no change to undo",
                this::nothingToUndo);
    }

    private static Supplier<TelescopeNight> pair(String moves) {
        return Edges.at(Edges.PAIR, moves);
    }

    // ---- changes

    private void sixChanges() {
        change("look at a clear sky", "clear x0", 3, x -> x.look(true));
        change("look at clouds", "clear x0", 3, x -> x.look(false));
        change("expose", "clear x0 clear", 4, x -> x.expose(1));
        change("expose in the last slot", "pass pass pass clear", 5, x -> x.expose(1));
        change("pass", "clear x0", 3, x -> x.pass());
        change("pass under a clear sky", "clear", 2, x -> x.pass());
        change("pass under clouds", "cloudy", 2, x -> x.pass());
        change("pass the last slot", "pass pass pass cloudy", 5, x -> x.pass());
        change("waive", "clear x0", 3, x -> x.waive(1));
        change("waive as the last team", "w0", 2, x -> x.waive(1));
        change("restart", "clear x0 w1 cloudy", 5, Edges::restart);
        change("restart in slot 0", "", 1, Edges::restart);
        change("restart of a night that is over", "clear x0 clear x1 pass pass", 7, Edges::restart);
        undoneLoads();
        noChanges();
        askInAllOrders();
    }

    /** A call that is one change: undone, it leaves all as it was, and all changes before it. */
    private void change(String what, String moves, int before, Edges.Use use) {
        TelescopeNight x = pair(moves).get();
        TelescopeNight quiet = pair(moves).get();
        Edges.now(x);
        use.on(x);
        use.on(quiet);
        check.same(what + ", and what was asked before", Edges.now(x), Edges.now(quiet));
        check.is(what + " is one change", before, x::undo);
        check.same(what + " is undone", Edges.future(x), Edges.future(pair(moves).get()));
    }

    private void undoneLoads() {
        for (String moves : new String[] {"", "clear", "clear x0 w1 cloudy", "pass pass pass pass"}) {
            TelescopeNight x = pair(moves).get();
            check.is("load a night without targets", 0, () -> x.load(20));
            check.is("its slots", 7, () -> x.count(0));
            x.undo();
            check.same("the load is undone behind '" + moves + "'", Edges.now(x),
                    Edges.now(pair(moves).get()));
        }
        TelescopeNight first = Check.nightOf(LONG);
        check.is("the first load", 0, first::undo);
        check.same("is undone", Edges.now(first), Edges.now(new TelescopeNight()));
        TelescopeNight same = Check.nightOf(LONG);
        Check.load(same, LONG);
        check.is("a load of the same night is a change, too", 1, same::undo);
    }

    private static final Edges.Use[] ASKED = {
        x -> x.errorPosition(), x -> x.count(4), x -> x.height(0, 3), x -> x.moonHeight(3),
        x -> x.moonDistance(1, 2), x -> x.window(0), x -> x.observable(3), x -> x.highestSlot(1),
        x -> x.latestStart(0), x -> x.clearOdds(3), x -> x.clearRun(0, 3), x -> x.inTurn(),
        x -> x.turnsOf(0), x -> x.exposures(0), x -> x.past(0, 0), x -> x.planValue(),
        x -> x.planned(3), x -> x.planValueWith(3, 0), x -> x.planValueWith(2, 1), x -> x.planCount(),
        x -> x.worth(0), x -> x.worth(1), x -> x.priceOfTurns(), x -> x.mostExposures(true),
        x -> x.mostExposures(false), x -> x.greedyValue(), x -> x.meanValue(), x -> x.meanValueOf(1),
        x -> x.decision(), x -> x.meanExposures(0), x -> x.meanExposures(1), x -> x.finishOdds(0),
        x -> x.finishOdds(1), x -> x.greedyMean(), x -> x.worthOfClear()};

    /** What is asked first does not matter for what is asked next. */
    private void askInAllOrders() {
        for (int first = 0; first < ASKED.length; first++) {
            for (int next = 0; next < ASKED.length; next++) {
                TelescopeNight x = pair("clear x0 clear").get();
                TelescopeNight quiet = pair("clear x0 clear").get();
                ASKED[first].on(x);
                Edges.Use use = ASKED[next];
                check.is("question " + next + " behind question " + first, use.on(quiet), () -> use.on(x));
            }
        }
    }

    /** What only asks is no change, nor is append. */
    private void noChanges() {
        TelescopeNight asked = pair("clear x0 clear").get();
        String before = Edges.now(asked);
        check.same("asked once more", Edges.now(asked), before);
        check.same("asking changes nothing", Edges.future(asked),
                Edges.future(pair("clear x0 clear").get()));
        TelescopeNight x = pair("clear x0 clear").get();
        Edges.append(x);
        x.meanValueOf(1);
        x.planValueWith(3, 0);
        x.clearRun(0, 3);
        x.highestSlot(0);
        x.window(0);
        x.decision();
        check.is("undo", 3, x::undo);
        check.is("it was the look that was undone", 0, () -> x.count(5));
    }

    private void loadsWithErrors() {
        loadWithError("", TelescopeNight.SYNTAX_ERROR);
        loadWithError("x", TelescopeNight.SYNTAX_ERROR);
        loadWithError("night 7", TelescopeNight.SYNTAX_ERROR);
        loadWithError("night 13;", TelescopeNight.VALUE_ERROR);
        loadWithError("night 7;sky 1 1 101;", TelescopeNight.VALUE_ERROR);
        loadWithError("night 7;" + "target 0 0 0 0 0 0 0 1 1;".repeat(7), TelescopeNight.TOO_MANY);
    }

    private void loadWithError(String text, int code) {
        TelescopeNight x = Check.nightOf(Edges.PAIR);
        x.look(true);
        String before = Edges.now(x);
        check.is("an error in '" + text + "'", code, () -> Check.load(x, text));
        // A load without an error takes the error's position away, and is undone again.
        Check.load(x, Edges.PAIR);
        check.is("undo the load behind '" + text + "'", 2, x::undo);
        check.same("the night behind '" + text + "'", Edges.now(x), before);
        check.is("undo the look", 1, x::undo);
        check.is("undo the first load", 0, x::undo);
        check.refuses("no more", Edges.STATE, x::undo);
    }

    private void latestEight() {
        // The load is one change, and each slot that passes is one.
        for (int passes = 0; passes <= 12; passes++) {
            TelescopeNight x = Check.nightOf(LONG);
            for (int i = 0; i < passes; i++) {
                x.pass();
            }
            int changes = Math.min(passes + 1, 8);
            for (int left = changes - 1; left >= 0; left--) {
                check.is("undo of " + passes + " slots", left, x::undo);
            }
            check.refuses("no more than " + changes, Edges.STATE, x::undo);
            check.is("slots behind it", passes < 8 ? 6 : 12, () -> x.count(0));
            check.is("the present slot behind it", Math.max(0, passes - 8), () -> x.count(3));
        }
        // Round and round the same eight.
        TelescopeNight many = Check.nightOf(LONG);
        for (int i = 0; i < 100; i++) {
            many.restart();
        }
        many.pass();
        for (int left = 7; left >= 0; left--) {
            check.is("undo behind a hundred changes", left, many::undo);
        }
        check.refuses("not the ninth one", Edges.STATE, many::undo);
        check.is("the load stays", 12, () -> many.count(0));
    }

    private void bufferStays() {
        TelescopeNight x = Check.nightOf(Edges.PAIR);
        x.pass();
        check.is("20 bytes", 20, () -> Edges.append(x));
        x.undo();
        check.is("they stay", 40, () -> Edges.append(x));
        x.undo();
        check.is("behind the undo of a load", 60, () -> Edges.append(x));
        TelescopeNight emptied = pair("").get();
        emptied.load(20);
        emptied.undo();
        check.refuses("what a load has read does not come back", Edges.ARGUMENT, () -> emptied.load(1));
        check.is("the buffer is empty", 20, () -> Edges.append(emptied));
        TelescopeNight read = new TelescopeNight();
        read.pass();
        Check.fill(read, Edges.PAIR);
        read.undo();
        check.is("a text from before an undo can be read", 2, () -> read.load(Edges.PAIR.length()));
        TelescopeNight full = Check.nightOf(LONG);
        for (int i = 0; i < 25; i++) {
            Edges.append(full);
        }
        full.undo();
        check.refuses("a full buffer stays full", Edges.STATE, () -> Edges.append(full));
    }

    // ---- exceptions

    /** All calls that can be refused at once, in situations of all kinds. */
    private void nothingChanges() {
        for (String moves : new String[] {"", "clear", "cloudy", "clear x0", "clear x0 clear", "w0 w1 clear",
            "clear x0 cloudy pass w1", "pass pass pass pass", "clear x0 clear x1 clear x0 clear",
            "clear x0 restart", "clear x0 undo"}) {
            TelescopeNight x = pair(moves).get();
            Edges.now(x);
            refuseAll(x, moves);
            check.same("nothing has changed behind '" + moves + "'", Edges.future(x),
                    Edges.future(pair(moves).get()));
        }
    }

    private void refuseAll(TelescopeNight x, String moves) {
        refused(moves, () -> x.load(21));
        refused(moves, () -> x.load(-1));
        refused(moves, () -> x.count(7));
        refused(moves, () -> x.height(2, 0));
        refused(moves, () -> x.moonHeight(4));
        refused(moves, () -> x.moonDistance(0, -1));
        refused(moves, () -> x.window(-1));
        refused(moves, () -> x.observable(4));
        refused(moves, () -> x.highestSlot(2));
        refused(moves, () -> x.latestStart(2));
        refused(moves, () -> x.clearOdds(4));
        refused(moves, () -> x.clearRun(1, 0));
        refused(moves, () -> x.expose(2));
        refused(moves, () -> x.waive(2));
        refused(moves, () -> x.waive(4));
        refused(moves, () -> x.turnsOf(4));
        refused(moves, () -> x.exposures(2));
        refused(moves, () -> x.past(4, 0));
        refused(moves, () -> x.planned(4));
        refused(moves, () -> x.planValueWith(3, 2));
        refused(moves, () -> x.worth(2));
        refused(moves, () -> x.meanValueOf(2));
        refused(moves, () -> x.meanExposures(2));
        refused(moves, () -> x.finishOdds(-1));
    }

    private void refused(String moves, Check.Call call) {
        String got = Check.outcome(call);
        check.same("refused behind '" + moves + "'", "" + got.startsWith("throws."), "true");
    }

    private void severalExceptions() {
        String hidden = "night 2;target 0 0 0 0 89 0 0 1 1;";
        edges.refuses("highestSlot", Edges.INDEX, Edges.at(hidden, ""), x -> x.highestSlot(1));
        edges.refuses("latestStart", Edges.INDEX, Edges.at(hidden, ""), x -> x.latestStart(1));
        edges.refuses("clearRun from a slot that does not exist", Edges.INDEX, pair(""),
                x -> x.clearRun(4, 0));
        edges.refuses("clearRun to a slot that does not exist", Edges.INDEX, pair(""),
                x -> x.clearRun(0, -1));
        edges.refuses("clearRun of two", Edges.INDEX, pair(""), x -> x.clearRun(-1, -2));
        edges.refuses("expose", Edges.INDEX, pair("cloudy"), x -> x.expose(2));
        edges.refuses("waive", Edges.INDEX, pair("w0 w1"), x -> x.waive(4));
        edges.refuses("waive without targets", Edges.INDEX, Edges.fresh(), x -> x.waive(-1));
        edges.refuses("past of the present slot", Edges.INDEX, pair("pass"), x -> x.past(1, 2));
        edges.refuses("past of no slot", Edges.INDEX, pair("pass"), x -> x.past(-1, -1));
        edges.refuses("planValueWith of no slot", Edges.INDEX, Edges.at(hidden, ""),
                x -> x.planValueWith(2, 0));
        edges.refuses("planValueWith of a slot that is over", Edges.INDEX, Edges.at(hidden, "pass"),
                x -> x.planValueWith(0, 0));
        edges.refuses("planValueWith of no target", Edges.INDEX, Edges.at(hidden, "cloudy"),
                x -> x.planValueWith(0, 1));
        edges.refuses("meanValueOf", Edges.INDEX, pair(""), x -> x.meanValueOf(2));
    }

    private void indices() {
        for (int team = 0; team <= 3; team++) {
            int t = team;
            edges.is("turns of team " + t, 0, Edges.fresh(), x -> x.turnsOf(t));
            edges.refuses("team " + t + " has no targets", Edges.STATE, Edges.fresh(), x -> x.waive(t));
        }
        edges.teams(TelescopeNight::turnsOf);
        edges.teams(TelescopeNight::waive);
        edges.targets(TelescopeNight::exposures);
        edges.slots(TelescopeNight::clearOdds);
        // As many targets as the night has, not as many as there may be.
        edges.index("target", pair(""), 1, TelescopeNight::window);
        edges.index("slot", pair(""), 3, TelescopeNight::observable);
        edges.refuses("a target of an earlier night", Edges.INDEX, () -> {
            TelescopeNight x = Check.nightOf(Edges.PAIR);
            Check.load(x, LONG);
            return x;
        }, x -> x.window(1));
        edges.refuses("a slot of an earlier night", Edges.INDEX, () -> {
            TelescopeNight x = Check.nightOf(LONG);
            Check.load(x, Edges.PAIR);
            return x;
        }, x -> x.clearOdds(4));
    }

    // ---- undo

    private void latestChanges() {
        String[] steps = {"", "clear", "clear x0", "clear x0 w1", "clear x0 w1 cloudy",
            "clear x0 w1 cloudy pass", "clear x0 w1 cloudy pass restart"};
        TelescopeNight x = pair(steps[steps.length - 1]).get();
        for (int i = steps.length - 2; i >= 0; i--) {
            check.is("undo to '" + steps[i] + "'", i + 1, x::undo);
            check.same("as behind '" + steps[i] + "'", Edges.now(x), Edges.now(pair(steps[i]).get()));
        }
        check.is("undo the load", 0, x::undo);
        check.same("as at first", Edges.now(x), Edges.now(new TelescopeNight()));
        // The past of a night comes back, though another one has begun and gone on since.
        TelescopeNight again = pair("clear x0 cloudy pass restart pass pass").get();
        check.is("undo a pass", 7, again::undo);
        again.undo();
        check.is("undo the restart", 5, again::undo);
        check.same("as before the restart", Edges.now(again), Edges.now(pair("clear x0 cloudy pass").get()));
        // What has been undone is gone: a new change takes its place.
        TelescopeNight other = pair("clear x0 undo undo cloudy").get();
        check.is("undo the clouds", 1, other::undo);
        check.is("not the exposure", 0, () -> other.count(4));
        check.same("as behind the load", Edges.now(other), Edges.now(pair("").get()));
    }

    private void changesLeft() {
        edges.is("one change", 0, pair(""), x -> x.undo());
        edges.is("two changes", 1, pair("pass"), x -> x.undo());
        edges.is("eight changes", 7, Edges.at(LONG, "pass pass pass pass pass pass pass"), x -> x.undo());
        edges.is("nine changes", 7, Edges.at(LONG, "pass pass pass pass pass pass pass pass"),
                x -> x.undo());
        TelescopeNight x = Edges.at(LONG, "pass pass pass pass pass pass pass pass pass").get();
        for (int left = 7; left >= 5; left--) {
            check.is("three of ten", left, x::undo);
        }
        x.pass();
        x.pass();
        check.is("two more", 6, x::undo);
        x.pass();
        x.pass();
        check.is("up to eight", 7, x::undo);
        x.pass();
        x.pass();
        check.is("and no more", 7, x::undo);
    }

    private void nothingToUndo() {
        edges.refuses("a new object", Edges.STATE, TelescopeNight::new, x -> x.undo());
        edges.refuses("all is undone", Edges.STATE, pair("undo"), x -> x.undo());
        edges.refuses("all is undone, of two", Edges.STATE, pair("pass undo undo"), x -> x.undo());
        edges.refuses("eight are undone", Edges.STATE,
                Edges.at(LONG, "pass pass pass pass pass pass pass pass pass "
                        + "undo undo undo undo undo undo undo undo"), x -> x.undo());
        edges.refuses("only a refused call", Edges.STATE, () -> {
            TelescopeNight x = new TelescopeNight();
            Check.outcome(() -> x.expose(0));
            Check.outcome(() -> x.load(1));
            Check.outcome(() -> x.waive(0));
            Edges.append(x);
            return x;
        }, x -> x.undo());
        edges.refuses("only a load with an error", Edges.STATE, () -> {
            TelescopeNight x = new TelescopeNight();
            Check.load(x, "night 0;");
            return x;
        }, x -> x.undo());
        edges.is("a change behind it can be undone", 0, pair("undo pass"), x -> x.undo());
    }
}
