import java.util.function.Supplier;

/** The boundary cases of a new object, of count, and of the calls that ask for the sky. */
final class AskEdges {
    private static final Supplier<TelescopeNight> GOING = Edges.GOING;

    private final Edges edges;
    private final Check check;

    AskEdges(Edges edges) {
        this.edges = edges;
        this.check = edges.check;
    }

    void run() {
        setup();
        heights();
        windows();
        chosenSlots();
        odds();
    }

    private void setup() {
        edges.sentence("promise 1", "Creates a night without targets, and an empty text buffer.",
                this::newObject);
        edges.sentence("promise 5", "0: slots; 1: targets; 2: teams that have targets, as a bit mask; "
                + "3: present slot; 4: points so far; 5: sky of the present slot (0 unknown, 1 clear, "
                + "2 cloudy; 0 if the night is over); 6: exposures so far", this::counts);
        edges.sentence("promise 5", "Throws `IllegalArgumentException` for any other what",
                this::otherCounts);
    }

    private void heights() {
        edges.sentence("promise 6", "Returns the height in degrees, which may be negative.",
                this::negativeHeights);
        edges.sentence("promise 6", "Throws `IndexOutOfBoundsException` if the target or the slot does not "
                + "exist", () -> targetAndSlot((x, target, slot) -> x.height(target, slot)));
        edges.sentence("promise 7", "Returns the height in degrees, which may be negative.",
                this::negativeMoonHeights);
        edges.sentence("promise 7", "Throws `IndexOutOfBoundsException` if the slot does not exist",
                () -> edges.slots(TelescopeNight::moonHeight));
        edges.sentence("promise 8", "Returns 0 to 180.", this::leastAndGreatestDistances);
        edges.sentence("promise 8", "Throws `IndexOutOfBoundsException` if the target or the slot does not "
                + "exist", () -> targetAndSlot((x, target, slot) -> x.moonDistance(target, slot)));
    }

    private void windows() {
        edges.sentence("promise 9", "Returns the slots as a bit mask.", this::emptyAndFullWindows);
        edges.sentence("promise 9", "Throws `IndexOutOfBoundsException` if the target does not exist",
                () -> edges.targets(TelescopeNight::window));
        edges.sentence("promise 10", "Returns the targets as a bit mask.", this::noneAndAllTargets);
        edges.sentence("promise 10", "Throws `IndexOutOfBoundsException` if the slot does not exist",
                () -> edges.slots(TelescopeNight::observable));
    }

    private void chosenSlots() {
        edges.sentence("promise 11", "Finds the slot in which a target can be observed and is highest, of "
                + "several the first one.", this::highestSlots);
        edges.sentence("promise 11", "Throws `IndexOutOfBoundsException` if the target does not exist",
                () -> edges.targets(TelescopeNight::highestSlot));
        edges.sentence("promise 11", "Throws `NoSuchElementException` if it can be observed in no slot",
                this::noHighestSlot);
        edges.sentence("promise 12", "Finds the latest slot, from the present one on, such that in this slot "
                + "and behind it a target can be observed in at least as many slots as it still wants "
                + "exposures.", this::latestStarts);
        edges.sentence("promise 12", "the number of slots if it wants no more exposures.",
                this::noMoreExposures);
        edges.sentence("promise 12", "Throws `IndexOutOfBoundsException` if the target does not exist",
                () -> edges.targets(TelescopeNight::latestStart));
        edges.sentence("promise 12", "Throws `NoSuchElementException` if there is no such slot",
                this::noLatestStart);
    }

    private void odds() {
        edges.sentence("promise 13", "Returns 0 to 1,000,000.", this::leastAndGreatestOdds);
        edges.sentence("promise 13", "Throws `IndexOutOfBoundsException` if the slot does not exist",
                () -> edges.slots(TelescopeNight::clearOdds));
        edges.sentence("promise 14", "the clear odds of the first one, multiplied for each later one by the "
                + "second percentage and divided by 100.", this::runs);
        edges.sentence("promise 14", "Returns 0 to 1,000,000.", this::leastAndGreatestRuns);
        edges.sentence("promise 14", "Throws `IndexOutOfBoundsException` if a slot does not exist",
                this::runsOfNoSlot);
        edges.sentence("promise 14", "Throws `IllegalArgumentException` if the last slot is in front of the "
                + "first one", this::runsBackwards);
    }

    // ---- indices

    private interface TwoIndices {
        long on(TelescopeNight x, int target, int slot);
    }

    private void targetAndSlot(TwoIndices use) {
        edges.index("target", GOING, 1, (x, index) -> use.on(x, index, 0));
        edges.index("slot", GOING, 3, (x, index) -> use.on(x, 1, index));
        edges.refuses("both", Edges.INDEX, GOING, x -> use.on(x, 2, 4));
        edges.refuses("both below", Edges.INDEX, GOING, x -> use.on(x, -1, -1));
        edges.refuses("a target of an empty night", Edges.INDEX, Edges.fresh(), x -> use.on(x, 0, 0));
    }

    // ---- setup

    private void newObject() {
        int[] due = {6, 0, 0, 0, 0, 0, 0};
        for (int what = 0; what < due.length; what++) {
            int w = what;
            edges.is("count " + w, due[w], TelescopeNight::new, x -> x.count(w));
        }
        edges.refuses("there is no target", Edges.INDEX, TelescopeNight::new, x -> x.exposures(0));
        edges.refuses("the buffer is empty", Edges.ARGUMENT, TelescopeNight::new, x -> x.load(1));
        edges.is("the buffer fills from 0", 20, TelescopeNight::new, Edges::append);
        edges.refuses("nothing can be undone", Edges.STATE, TelescopeNight::new, x -> x.undo());
        edges.is("no target to expose", 0, TelescopeNight::new, x -> x.look(true));
        edges.is("an empty plan", 1, TelescopeNight::new, x -> x.planCount());
        check.same("two objects share nothing", behindAnother(), Edges.future(new TelescopeNight()));
    }

    private static String behindAnother() {
        TelescopeNight quiet = new TelescopeNight();
        TelescopeNight busy = Edges.at(Edges.PAIR, "clear x0 w1").get();
        busy.planValue();
        return Edges.future(quiet);
    }

    private void counts() {
        String text = "night 2;target 1 80 0 0 0 0 0 2 1000;target 3 80 0 0 0 0 0 1 1;";
        countsAre(text, "", 2, 2, 10, 0, 0, 0, 0);
        countsAre(text, "clear", 2, 2, 10, 0, 0, 1, 0);
        countsAre(text, "cloudy", 2, 2, 10, 0, 0, 2, 0);
        countsAre(text, "pass", 2, 2, 10, 1, 0, 0, 0);
        countsAre(text, "clear x0", 2, 2, 10, 1, 1000, 0, 1);
        countsAre(text, "clear x0 clear", 2, 2, 10, 1, 1000, 1, 1);
        countsAre(text, "clear x0 clear x1", 2, 2, 10, 2, 1001, 0, 2);
        countsAre(text, "clear x0 cloudy pass", 2, 2, 10, 2, 1000, 0, 1);
        countsAre(text, "w1 w3", 2, 2, 10, 0, 0, 0, 0);
        countsAre("night 12;" + "target 3 0 0 0 89 0 0 3 1;".repeat(6), "", 12, 6, 8, 0, 0, 0, 0);
        countsAre("night 1;", "clear pass", 1, 0, 0, 1, 0, 0, 0);
    }

    private void countsAre(String text, String moves, int... due) {
        TelescopeNight x = Edges.at(text, moves).get();
        for (int what = 0; what < due.length; what++) {
            int w = what;
            check.is("count " + w + " behind '" + moves + "'", due[w], () -> x.count(w));
        }
    }

    private void otherCounts() {
        edges.is("count 6 is the last one", 1, GOING, x -> x.count(6));
        for (int what : new int[] {-1, 7, 8, 32, Edges.LEAST, Edges.MOST}) {
            edges.refuses("count " + what, Edges.ARGUMENT, GOING, x -> x.count(what));
        }
    }

    // ---- the sky

    private void negativeHeights() {
        // 1, 0, -3, -8.
        String text = "night 4;target 0 1 1 0 0 0 0 1 1;";
        int[] due = {1, 0, -3, -8};
        for (int slot = 0; slot < due.length; slot++) {
            int s = slot;
            edges.is("slot " + s, due[s], Edges.at(text, ""), x -> x.height(0, s));
        }
        edges.is("far below", -18750, Edges.at("night 1;target 0 0 30 25 0 0 0 1 1;", ""),
                x -> x.height(0, 0));
    }

    private void negativeMoonHeights() {
        int[] due = {1, 0, -3, -8};
        for (int slot = 0; slot < due.length; slot++) {
            int s = slot;
            edges.is("slot " + s, due[s], Edges.at("night 4;moon 1 1 0 0 0 0;", ""), x -> x.moonHeight(s));
        }
        edges.is("far below", -18750, Edges.at("night 1;moon 0 30 25 0 0 0;", ""), x -> x.moonHeight(0));
    }

    private void leastAndGreatestDistances() {
        // The target goes 15 a slot and the moon 195, so they are 180 apart in each second slot.
        String text = "night 12;moon 0 0 0 100 195 0;target 0 0 0 0 0 100 0 1 1;";
        for (int slot = 0; slot < 12; slot++) {
            int s = slot;
            edges.is("slot " + s, s % 2 == 0 ? 0 : 180, Edges.at(text, ""), x -> x.moonDistance(0, s));
        }
        // One degree less: 181 and 179 are both 179.
        for (int azimuth : new int[] {99, 101}) {
            String beside = "night 2;moon 0 0 0 100 195 0;target 0 0 0 0 0 " + azimuth + " 0 1 1;";
            edges.is("beside it, at " + azimuth, 1, Edges.at(beside, ""), x -> x.moonDistance(0, 0));
            edges.is("opposite, at " + azimuth, 179, Edges.at(beside, ""), x -> x.moonDistance(0, 1));
        }
    }

    private void emptyAndFullWindows() {
        edges.is("no slot", 0, Edges.at("night 12;target 0 0 0 0 1 0 0 1 1;", ""), x -> x.window(0));
        edges.is("all slots", 4095, Edges.at("night 12;target 0 1 0 0 1 0 0 1 1;", ""), x -> x.window(0));
        edges.is("the first slot", 1, Edges.at("night 12;target 0 1 1 0 1 0 0 1 1;", ""), x -> x.window(0));
        edges.is("the last slot", 2048, Edges.at("night 12;target 0 1 1 11 1 0 0 1 1;", ""),
                x -> x.window(0));
        edges.is("not the slot behind the night", 0, Edges.at("night 12;target 0 1 1 12 1 0 0 1 1;", ""),
                x -> x.window(0));
        edges.is("not the slot in front of it", 0, Edges.at("night 12;target 0 1 1 -1 1 0 0 1 1;", ""),
                x -> x.window(0));
        edges.is("the only slot", 1, Edges.at("night 1;target 0 1 0 0 1 0 0 1 1;", ""), x -> x.window(0));
        edges.is("slots that are over, too", 15, Edges.at(Edges.PAIR, "pass pass"), x -> x.window(0));
        edges.is("of a shorter night behind a longer one", 3, () -> {
            TelescopeNight x = Check.nightOf("night 12;target 0 1 0 0 1 0 0 1 1;");
            Check.load(x, "night 2;target 0 1 0 0 1 0 0 1 1;");
            return x;
        }, x -> x.window(0));
    }

    private void noneAndAllTargets() {
        String seen = "target 0 80 0 0 0 0 0 1 1;";
        String hidden = "target 0 0 0 0 89 0 0 1 1;";
        edges.is("without targets", 0, Edges.fresh(), x -> x.observable(0));
        edges.is("none", 0, Edges.at("night 1;" + hidden.repeat(6), ""), x -> x.observable(0));
        edges.is("all", 63, Edges.at("night 1;" + seen.repeat(6), ""), x -> x.observable(0));
        edges.is("the first one", 1, Edges.at("night 1;" + seen + hidden.repeat(5), ""),
                x -> x.observable(0));
        edges.is("the last one", 32, Edges.at("night 1;" + hidden.repeat(5) + seen, ""),
                x -> x.observable(0));
        edges.is("waived and exposed ones, too", 3, Edges.at(Edges.PAIR, "clear x1 w0 w1"),
                x -> x.observable(3));
        edges.is("fewer targets behind more", 1, () -> {
            TelescopeNight x = Check.nightOf("night 1;" + seen.repeat(6));
            Check.load(x, "night 1;" + seen);
            return x;
        }, x -> x.observable(0));
    }

    private void highestSlots() {
        highest("the first slot", "80 1 -3 0 0 0", 0);
        highest("the last slot", "80 1 15 0 0 0", 11);
        highest("in between", "80 1 5 0 0 0", 5);
        highest("all are equal", "80 0 5 0 0 0", 0);
        // The moon stands beside the target and is above the ground in the slots 3 to 7.
        String moon = "moon 6 1 5 0 15 100;";
        String text = "night 12;" + moon + "target 0 80 1 5 0 0 10 1 1;";
        edges.is("the first of two on both sides of the moon", 2, Edges.at(text, ""),
                x -> x.highestSlot(0));
        edges.is("slots that are over count", 5, Edges.at("night 12;target 0 80 1 5 0 0 0 1 1;",
                "pass pass pass pass pass pass"), x -> x.highestSlot(0));
        edges.is("the height 0", 1, Edges.at("night 3;target 0 0 1 1 0 0 0 1 1;", ""),
                x -> x.highestSlot(0));
    }

    private void highest(String what, String numbers, int due) {
        edges.is(what, due, Edges.at("night 12;target 0 " + numbers + " 1 1;", ""),
                x -> x.highestSlot(0));
    }

    private void noHighestSlot() {
        String text = "night 3;moon 90 0 0 0 15 100;target 0 80 0 0 80 0 0 1 1;"
                + "target 0 80 0 0 81 0 0 1 1;target 0 80 0 0 0 0 1 1 1;target 0 80 1 3 80 0 0 1 1;";
        edges.is("just high enough", 0, Edges.at(text, ""), x -> x.highestSlot(0));
        edges.refuses("just too low", Edges.ELEMENT, Edges.at(text, "clear"), x -> x.highestSlot(1));
        edges.refuses("beside the moon", Edges.ELEMENT, Edges.at(text, "clear"), x -> x.highestSlot(2));
        edges.refuses("only behind the night", Edges.ELEMENT, Edges.at(text, "clear"),
                x -> x.highestSlot(3));
    }

    /** Target 0 is seen in the slots 1 to 3 and wants two exposures, target 1 wants three. */
    private static final String MIDDLE = "night 5;target 0 80 20 2 60 0 0 2 1;"
            + "target 0 80 20 2 60 0 0 3 1;target 0 80 20 2 80 0 0 1 1;";

    private void latestStarts() {
        edges.is("two of three slots", 2, Edges.at(MIDDLE, ""), x -> x.latestStart(0));
        edges.is("three of three slots", 1, Edges.at(MIDDLE, ""), x -> x.latestStart(1));
        edges.is("one of one slot", 2, Edges.at(MIDDLE, ""), x -> x.latestStart(2));
        edges.is("the present slot", 1, Edges.at(MIDDLE, "pass"), x -> x.latestStart(1));
        edges.is("the present slot, cloudy", 1, Edges.at(MIDDLE, "pass cloudy"), x -> x.latestStart(1));
        edges.is("one exposure less", 3, Edges.at(MIDDLE, "pass clear x0"), x -> x.latestStart(0));
        edges.is("the last slot", 3, Edges.at(Edges.PAIR, ""), x -> x.latestStart(1));
        edges.is("a waived team", 2, Edges.at(MIDDLE, "w0"), x -> x.latestStart(0));
        edges.is("the only slot", 0, Edges.at("night 1;target 0 80 0 0 0 0 0 1 1;", ""),
                x -> x.latestStart(0));
    }

    private void noMoreExposures() {
        edges.is("one is wanted still", 3, Edges.at(Edges.PAIR, "clear x0 clear x1"),
                x -> x.latestStart(0));
        edges.is("none is wanted", 4, Edges.at(Edges.PAIR, "clear x0 clear x1"), x -> x.latestStart(1));
        edges.is("none is wanted, and the night is over", 4,
                Edges.at(Edges.PAIR, "clear x1 pass pass pass"), x -> x.latestStart(1));
        edges.is("none is wanted in the longest night", 12,
                Edges.at("night 12;target 0 80 0 0 0 0 0 1 1;", "clear x0"), x -> x.latestStart(0));
    }

    private void noLatestStart() {
        edges.refuses("two slots for three", Edges.ELEMENT, Edges.at(MIDDLE, "pass pass"),
                x -> x.latestStart(1));
        edges.is("two slots for two", 2, Edges.at(MIDDLE, "pass pass"), x -> x.latestStart(0));
        edges.refuses("one slot for two", Edges.ELEMENT, Edges.at(MIDDLE, "pass pass pass"),
                x -> x.latestStart(0));
        edges.refuses("no slot for one", Edges.ELEMENT, Edges.at(MIDDLE, "pass pass pass"),
                x -> x.latestStart(2));
        edges.refuses("never seen", Edges.ELEMENT, Edges.at("night 5;target 0 0 0 0 1 0 0 1 1;", "clear"),
                x -> x.latestStart(0));
        edges.refuses("over", Edges.ELEMENT, Edges.at(Edges.PAIR, "pass pass pass pass"),
                x -> x.latestStart(1));
    }

    // ---- odds

    private void leastAndGreatestOdds() {
        for (int slot = 0; slot < 12; slot++) {
            int s = slot;
            edges.is("for ever clear, slot " + s, 1000000, Edges.at("night 12;sky 100 100 0;", ""),
                    x -> x.clearOdds(s));
            edges.is("for ever cloudy, slot " + s, 0, Edges.at("night 12;sky 0 100 0;", ""),
                    x -> x.clearOdds(s));
            edges.is("clear and cloudy in turns, slot " + s, s % 2 == 0 ? 1000000 : 0,
                    Edges.at("night 12;sky 100 0 100;", ""), x -> x.clearOdds(s));
        }
    }

    private void runs() {
        Supplier<TelescopeNight> odd = Edges.at("night 4;sky 33 77 11;", "");
        edges.is("one slot", 330000, odd, x -> x.clearRun(0, 0));
        edges.is("the last slot", 325389, odd, x -> x.clearRun(3, 3));
        edges.is("two slots", 254100, odd, x -> x.clearRun(0, 1));
        // 327800, 252406, 194352.62; from slot 0: 330000, 254100, 195657, 150655.89.
        edges.is("three slots", 194352, odd, x -> x.clearRun(1, 3));
        edges.is("all slots", 150655, odd, x -> x.clearRun(0, 3));
        // 10000, 100, 1, 0.01.
        edges.is("down to 1", 1, Edges.at("night 4;sky 1 1 1;", ""), x -> x.clearRun(0, 2));
        edges.is("down to 0", 0, Edges.at("night 4;sky 1 1 1;", ""), x -> x.clearRun(0, 3));
        edges.is("what was seen does not matter", 150655, Edges.at("night 4;sky 33 77 11;", "cloudy pass"),
                x -> x.clearRun(0, 3));
    }

    private void leastAndGreatestRuns() {
        edges.is("for ever clear", 1000000, Edges.at("night 12;sky 100 100 0;", ""),
                x -> x.clearRun(0, 11));
        edges.is("never clear", 0, Edges.at("night 12;sky 0 100 0;", ""), x -> x.clearRun(0, 11));
        edges.is("never twice", 0, Edges.at("night 12;sky 100 0 100;", ""), x -> x.clearRun(0, 1));
        edges.is("but once", 1000000, Edges.at("night 12;sky 100 0 100;", ""), x -> x.clearRun(0, 0));
    }

    private void runsOfNoSlot() {
        edges.index("the first slot", GOING, 3, (x, index) -> x.clearRun(index, 3));
        edges.index("the last slot", GOING, 3, (x, index) -> x.clearRun(0, index));
        edges.index("both", GOING, 3, (x, index) -> x.clearRun(index, index));
    }

    private void runsBackwards() {
        edges.is("the same slot", 550000, GOING, x -> x.clearRun(1, 1));
        edges.refuses("one slot back", Edges.ARGUMENT, GOING, x -> x.clearRun(1, 0));
        edges.refuses("from the last slot to the first one", Edges.ARGUMENT, GOING, x -> x.clearRun(3, 0));
        edges.refuses("in the longest night", Edges.ARGUMENT, Edges.at("night 12;", "clear"),
                x -> x.clearRun(11, 10));
    }
}
