import java.util.NoSuchElementException;
import java.util.Set;
import java.util.TreeSet;
import java.util.function.Supplier;

/**
 * What the tests of the boundary cases share. A test stands for one sentence of the document; a call
 * that is refused is made on one of two objects with the same calls behind them, and both must go on
 * in the same way.
 */
final class Edges {
    static final Class<IllegalArgumentException> ARGUMENT = IllegalArgumentException.class;
    static final Class<IllegalStateException> STATE = IllegalStateException.class;
    static final Class<IndexOutOfBoundsException> INDEX = IndexOutOfBoundsException.class;
    static final Class<NoSuchElementException> ELEMENT = NoSuchElementException.class;
    static final int LEAST = Integer.MIN_VALUE;
    static final int MOST = Integer.MAX_VALUE;

    /** Two teams whose targets can always be observed; the odds are 500000, 550000, 575000, 587500. */
    static final String PAIR = "night 4;sky 50 80 30;"
            + "target 0 80 0 0 10 0 0 2 10;target 1 80 0 0 10 0 0 1 7;";
    /** The pair behind an exposure of target 0, with clouds in the present slot 1. */
    static final Supplier<TelescopeNight> GOING = at(PAIR, "clear x0 cloudy");
    /** What is left in the buffer, so that a call that empties or fills it can be seen. */
    private static final String LEFT_IN_BUFFER = "night 7;";
    private static final int SPACES = 0x20202020;

    /** A call on some object. */
    interface Use {
        long on(TelescopeNight x);
    }

    /** A call with an index. */
    interface IndexUse {
        long on(TelescopeNight x, int index);
    }

    final Check check = new Check("EdgesTest");
    private final Document document = new Document();
    private final Set<String> quoted = new TreeSet<>();

    /** Runs the test of a sentence, which must stand in the document at this place. */
    void sentence(String place, String sentence, Runnable test) {
        check.about(place + ": " + sentence);
        boolean stands = document.holds(place, sentence);
        check.same("the sentence stands in the document", "" + stands, "true");
        int before = check.calls();
        test.run();
        boolean tested = check.calls() > before;
        check.same("the sentence has a test", "" + tested, "true");
        quoted.add(place + ": " + sentence);
        check.about("");
    }

    /** Each promise has a test here, and each sentence that tells when a call is refused. */
    void end() {
        for (String refusal : document.refusals()) {
            check.same("'" + refusal + "' has a test", "" + quoted.contains(refusal), "true");
        }
        for (String promise : document.promises()) {
            boolean found = quoted.stream().anyMatch(line -> line.startsWith(promise + ":"));
            check.same(promise + " has a test", "" + found, "true");
        }
        check.end();
    }

    // ---- objects

    static Supplier<TelescopeNight> fresh() {
        return at("", "");
    }

    /** Makes objects with a text loaded and some moves made: clear, cloudy, pass, x0, w1, ... */
    static Supplier<TelescopeNight> at(String text, String moves) {
        return () -> {
            TelescopeNight x = text.isEmpty() ? new TelescopeNight() : Check.nightOf(text);
            for (String move : moves.split(" ")) {
                make(x, move);
            }
            Check.fill(x, LEFT_IN_BUFFER);
            return x;
        };
    }

    private static void make(TelescopeNight x, String move) {
        switch (move) {
            case "" -> { }
            case "clear" -> x.look(true);
            case "cloudy" -> x.look(false);
            case "pass" -> x.pass();
            case "restart" -> x.restart();
            case "undo" -> x.undo();
            default -> makeWithNumber(x, move.charAt(0), move.charAt(1) - '0');
        }
    }

    private static void makeWithNumber(TelescopeNight x, char kind, int number) {
        if (kind == 'x') {
            x.expose(number);
        } else {
            x.waive(number);
        }
    }

    static int append(TelescopeNight x) {
        return x.append(SPACES, SPACES, SPACES, SPACES, SPACES);
    }

    static long restart(TelescopeNight x) {
        x.restart();
        return 0;
    }

    // ---- answers

    void is(String what, long due, Supplier<TelescopeNight> maker, Use use) {
        TelescopeNight x = maker.get();
        check.is(what, due, () -> use.on(x));
    }

    void refuses(String what, Class<? extends RuntimeException> due, Supplier<TelescopeNight> maker,
            Use use) {
        TelescopeNight asked = maker.get();
        check.refuses(what, due, () -> use.on(asked));
        check.same(what + ", and what is seen behind it", future(asked), future(maker.get()));
    }

    /** An index that exists may be refused for another reason, but not as an index. */
    void exists(String what, Supplier<TelescopeNight> maker, Use use) {
        TelescopeNight x = maker.get();
        String got = Check.outcome(() -> use.on(x));
        check.same(what + " exists", "" + !got.endsWith(INDEX.getSimpleName()), "true");
    }

    /** An index from 0 to the last one: what is beyond both ends is refused. */
    void index(String what, Supplier<TelescopeNight> maker, int last, IndexUse use) {
        for (int good : new int[] {0, last}) {
            exists(what + " " + good, maker, x -> use.on(x, good));
        }
        for (int bad : new int[] {-1, last + 1, LEAST, MOST}) {
            refuses(what + " " + bad, INDEX, maker, x -> use.on(x, bad));
        }
    }

    void targets(IndexUse use) {
        index("target", GOING, 1, use);
        index("one of six targets", at("night 12;" + "target 0 80 0 0 0 0 0 1 1;".repeat(6), "clear"), 5,
                use);
        refuses("a target of an empty night", INDEX, fresh(), x -> use.on(x, 0));
    }

    void slots(IndexUse use) {
        index("slot", GOING, 3, use);
        index("slot of the shortest night", at("night 1;", ""), 0, use);
        index("slot of the longest night", at("night 12;", "pass"), 11, use);
        index("slot of the first night", fresh(), 5, use);
        index("slot of a night that is over", at("night 2;", "pass pass"), 1, use);
    }

    /** All four teams exist, whether they have targets or not. */
    void teams(IndexUse use) {
        index("team", GOING, 3, use);
        index("team of an empty night", fresh(), 3, use);
    }

    /** A text, the answer of load, and the position of the error. */
    void text(String text, int code, int position) {
        TelescopeNight x = new TelescopeNight();
        check.is("load '" + text + "'", code, () -> Check.load(x, text));
        check.is("position in '" + text + "'", position, x::errorPosition);
    }

    /** A number of a text at both ends of its range, and the first ones beyond them. */
    void range(String before, int low, int high, String behind) {
        int at = before.length();
        int good = before.contains("target") ? 1 : 0;
        text(before + low + behind, good, TelescopeNight.NONE);
        text(before + high + behind, good, TelescopeNight.NONE);
        text(before + (high + 1) + behind, TelescopeNight.VALUE_ERROR, at);
        // A number whose range begins at 0 has no minus sign in the grammar.
        text(before + (low - 1) + behind,
                low == 0 ? TelescopeNight.SYNTAX_ERROR : TelescopeNight.VALUE_ERROR, at);
    }

    // ---- what can be seen of an object, in less than the 512 calls that it is made for

    /** All that can be seen of an object: now, as its changes are undone, and of its buffer. */
    static String future(TelescopeNight x) {
        StringBuilder seen = new StringBuilder(now(x));
        String undone = Check.outcome(x::undo);
        for (int i = 0; i < 20 && !undone.startsWith("throws"); i++) {
            seen.append(" undo ").append(undone).append(brief(x));
            undone = Check.outcome(x::undo);
        }
        String filled = Check.outcome(() -> append(x));
        int length = filled.startsWith("throws") ? 500 : Integer.parseInt(filled);
        seen.append(" append ").append(filled);
        seen.append(" load ").append(Check.outcome(() -> x.load(length)));
        return seen.append(brief(x)).append(" undo ").append(Check.outcome(x::undo)).toString();
    }

    private static String brief(TelescopeNight x) {
        StringBuilder seen = new StringBuilder(" (");
        for (int what = 0; what <= 6; what++) {
            add(seen, x.count(what));
        }
        add(seen, x.errorPosition());
        add(seen, x.inTurn());
        add(seen, x.moonHeight(0));
        add(seen, x.clearOdds(0));
        add(seen, x.observable(0));
        return seen.append(")").toString();
    }

    /** What can be asked of an object as it stands. */
    static String now(TelescopeNight x) {
        StringBuilder seen = new StringBuilder(brief(x));
        for (int i = 0; i < x.count(0); i++) {
            int slot = i;
            add(seen, x.observable(slot));
            add(seen, x.clearOdds(slot));
            add(seen, x.moonHeight(slot));
            seen.append(Check.outcome(() -> x.past(slot, 0))).append(' ');
            seen.append(Check.outcome(() -> x.past(slot, 1))).append(' ');
            seen.append(Check.outcome(() -> x.planned(slot))).append(' ');
        }
        for (int target = 0; target < x.count(1); target++) {
            addTarget(seen, x, target);
        }
        for (int team = 0; team <= 3; team++) {
            add(seen, x.turnsOf(team));
        }
        addOutlook(seen, x);
        return seen.toString();
    }

    private static void addTarget(StringBuilder seen, TelescopeNight x, int target) {
        add(seen, x.height(target, 0));
        add(seen, x.moonDistance(target, 0));
        add(seen, x.exposures(target));
        add(seen, x.worth(target));
        add(seen, x.meanExposures(target));
        add(seen, x.finishOdds(target));
        seen.append(Check.outcome(() -> x.latestStart(target))).append(' ');
    }

    private static void addOutlook(StringBuilder seen, TelescopeNight x) {
        add(seen, x.planValue());
        add(seen, x.planCount());
        add(seen, x.priceOfTurns());
        add(seen, x.mostExposures(true));
        add(seen, x.mostExposures(false));
        add(seen, x.greedyValue());
        add(seen, x.meanValue());
        add(seen, x.greedyMean());
        seen.append(Check.outcome(x::decision)).append(' ');
        seen.append(Check.outcome(x::worthOfClear)).append(' ');
    }

    private static void add(StringBuilder seen, long answer) {
        seen.append(answer).append(' ');
    }
}
