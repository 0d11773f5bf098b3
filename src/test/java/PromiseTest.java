import java.util.NoSuchElementException;

/** Each promise of the document, with answers worked out by hand. */
public final class PromiseTest {
    private static final Class<IllegalArgumentException> ARGUMENT = IllegalArgumentException.class;
    private static final Class<IllegalStateException> STATE = IllegalStateException.class;
    private static final Class<IndexOutOfBoundsException> INDEX = IndexOutOfBoundsException.class;
    private static final Class<NoSuchElementException> ELEMENT = NoSuchElementException.class;
    private static final int LEAST = Integer.MIN_VALUE;
    private static final int MOST = Integer.MAX_VALUE;

    /** Two teams whose targets can always be observed; the odds are 500000, 550000, 575000, 587500. */
    private static final String TWO_TEAMS = "night 4;sky 50 80 30;"
            + "target 0 80 0 0 10 0 0 2 10;target 1 80 0 0 10 0 0 1 7;";
    /** The same, but team 0 could go on if team 1 did not wait for ever. */
    private static final String BLOCKED = "night 4;sky 50 80 30;"
            + "target 0 80 0 0 10 0 0 3 10;target 1 80 0 0 10 0 0 1 7;";
    /** Team 0 has one turn only, as team 1 never has any: 1 point now, or 100 points in slot 1. */
    private static final String ONE_TURN = "night 2;sky 50 80 30;target 0 80 0 0 10 0 0 1 1;"
            + "target 0 90 30 1 80 0 0 1 100;target 1 0 0 0 89 0 0 1 5;";
    private static final String ONE_TARGET = "night 2;sky 50 80 30;target 0 80 0 0 10 0 0 1 10;";

    private final Check check = new Check("PromiseTest");

    public static void main(String[] args) {
        PromiseTest test = new PromiseTest();
        test.setUp();
        test.seeTheSky();
        test.goThroughTheNight();
        test.makePlans();
        test.makeDecisions();
        test.promise39Undo();
        test.check.end();
    }

    private void setUp() {
        promise1NewObject();
        promise2Append();
        promise3Load();
        promise3SyntaxErrors();
        promise3ValueErrors();
        promise3TooMany();
        promise4ErrorPosition();
        promise5Count();
    }

    private void seeTheSky() {
        promise6Height();
        promise7MoonHeight();
        promise8MoonDistance();
        promise9And10Window();
        promise11HighestSlot();
        promise12LatestStart();
        promise13ClearOdds();
        promise14ClearRun();
    }

    private void goThroughTheNight() {
        promise15Look();
        promise16Expose();
        promise17Pass();
        promise18Waive();
        promise19Restart();
        promise20InTurn();
        promise21And22Turns();
        promise23Past();
    }

    private void makePlans() {
        promise24And25Plan();
        promise25FirstOfSeveral();
        promise26PlanValueWith();
        promise27PlanCount();
        promise28Worth();
        promise29PriceOfTurns();
        promise30MostExposures();
        promise31GreedyValue();
    }

    private void makeDecisions() {
        promise32MeanValue();
        promise33MeanValueOf();
        promise34Decision();
        promise35MeanExposures();
        promise36FinishOdds();
        promise37GreedyMean();
        promise38WorthOfClear();
    }

    private static int append(TelescopeNight x) {
        return x.append(0, 0, 0, 0, 0);
    }

    private static long restart(TelescopeNight x) {
        x.restart();
        return 0;
    }

    private void promise1NewObject() {
        TelescopeNight x = new TelescopeNight();
        int[] due = {6, 0, 0, 0, 0, 0, 0};
        for (int what = 0; what < due.length; what++) {
            int w = what;
            check.is("1 count " + w, due[w], () -> x.count(w));
        }
        check.is("1 errorPosition", -1, x::errorPosition);
        check.is("1 moonHeight 0", -100, () -> x.moonHeight(0));
        check.is("1 moonHeight 5", -225, () -> x.moonHeight(5));
        check.is("1 observable", 0, () -> x.observable(5));
        check.is("1 clearOdds 5", 596875, () -> x.clearOdds(5));
        check.is("1 inTurn", 0, x::inTurn);
        check.is("1 planValue", 0, x::planValue);
        check.is("1 planCount", 1, x::planCount);
        check.is("1 meanValue", 0, x::meanValue);
        check.refuses("1 load 1", ARGUMENT, () -> x.load(1));
        check.refuses("1 undo", STATE, x::undo);
        check.refuses("1 target", INDEX, () -> x.height(0, 0));
        check.is("1 constants", -1234, () -> TelescopeNight.NONE * 1000
                + TelescopeNight.SYNTAX_ERROR * 100 + TelescopeNight.VALUE_ERROR * 10
                + TelescopeNight.TOO_MANY);
    }

    private void promise2Append() {
        TelescopeNight x = new TelescopeNight();
        for (int length = 20; length <= 500; length += 20) {
            check.is("2 append", length, () -> append(x));
        }
        check.refuses("2 append to 500", STATE, () -> append(x));
        check.refuses("2 append to 500 again", STATE, () -> append(x));
        check.is("2 the full buffer is read", -2, () -> x.load(500));
        check.is("2 append behind load", 20, () -> append(x));
        TelescopeNight y = new TelescopeNight();
        // "nigh" "t 3;" and twelve spaces: the most significant byte is the first one.
        check.is("2 bytes", 20,
                () -> y.append(0x6e696768, 0x7420333b, 0x20202020, 0x20202020, 0x20202020));
        check.is("2 load", 0, () -> y.load(20));
        check.is("2 slots", 3, () -> y.count(0));
        y.append(0x6e696768, 0x7420333b, 0x20202020, 0x20202020, 0x2020f020);
        check.is("2 a byte above 127", -2, () -> y.load(20));
        check.is("2 its position", 18, y::errorPosition);
    }

    private void promise3Load() {
        TelescopeNight x = new TelescopeNight();
        check.refuses("3 load -1", ARGUMENT, () -> x.load(-1));
        check.refuses("3 load least", ARGUMENT, () -> x.load(LEAST));
        Check.fill(x, "night 5;target 0 80 0 0 10 0 0 2 10;oh");
        check.refuses("3 load 41", ARGUMENT, () -> x.load(41));
        check.refuses("3 load most", ARGUMENT, () -> x.load(MOST));
        check.is("3 a part of the buffer", 1, () -> x.load(36));
        check.is("3 slots", 5, () -> x.count(0));
        check.refuses("3 the buffer is empty", ARGUMENT, () -> x.load(1));
        x.look(true);
        x.expose(0);
        check.is("3 an error", -2, () -> Check.load(x, "night 7;oh"));
        check.refuses("3 the buffer is empty behind an error", ARGUMENT, () -> x.load(1));
        check.is("3 the night stays", 5, () -> x.count(0));
        check.is("3 the points stay", 10, () -> x.count(4));
        check.is("3 the present slot stays", 1, () -> x.count(3));
        x.waive(0);
        check.is("3 another night", 1, () -> Check.load(x, "night 7;target 0 1 0 0 0 0 0 1 1;"));
        check.is("3 it begins at slot 0", 0, () -> x.count(3));
        check.is("3 it begins without points", 0, () -> x.count(4));
        check.is("3 nobody has waived", 1, x::inTurn);
        Check.load(x, "night 12;sky 1 2 3;moon 90 0 0 0 0 0;");
        Check.load(x, "night 12;");
        check.is("3 without sky the odds are as at first", 500000, () -> x.clearOdds(0));
        check.is("3 without moon it is as at first", -100, () -> x.moonHeight(0));
        check.is("3 length 0", -2, () -> x.load(0));
    }

    private void text(String text, int code, int position) {
        TelescopeNight x = new TelescopeNight();
        check.is("3 load '" + text + "'", code, () -> Check.load(x, text));
        check.is("4 position in '" + text + "'", position, x::errorPosition);
    }

    private void promise3SyntaxErrors() {
        text("", -2, 0);
        text("   ", -2, 3);
        text("night", -2, 5);
        text("nigh 6;", -2, 0);
        text("nights 6;", -2, 0);
        text("nightz 6;", -2, 0);
        text("nighta 6;", -2, 0);
        text("night{6;", -2, 5);
        text("night`6;", -2, 5);
        text("night 6:;", -2, 7);
        text("night 6/;", -2, 7);
        text(" Night 6;", -2, 1);
        text("moon 0 0 0 0 0 0;night 6;", -2, 0);
        text("6;", -2, 0);
        text("night ;", -2, 6);
        text("night 6", -2, 7);
        text("night 6  ", -2, 9);
        text("night 6 5;", -2, 8);
        text("night -1;", -2, 6);
        text("night +1;", -2, 6);
        text("night x;", -2, 6);
        text("night 6;", 0, -1);
        text("  night  6  ;  ", 0, -1);
        text("night6;sky1 2 3;moon1 2-3 4 5 6;target0 1 2-3 4 5 6 1 8;", 1, -1);
        text("night 6;;", -2, 8);
        text("night 6; 6;", -2, 9);
        text("night 6;night 6;", -2, 8);
        text("night 6;targe", -2, 8);
        text("night 6;targets 0 0 0 0 0 0 0 1 1;", -2, 8);
        text("night 6;\tsky 1 2 3;", -2, 8);
        text("night 6;sky 1 2 3;moon 0 0 0 0 0 0;sky 1 2 3;", -2, 35);
        text("night 6;moon 0 0 0 0 0 0;moon 0 0 0 0 0 0;", -2, 25);
        text("night 6;sky 1 2;", -2, 15);
        text("night 6;sky 1 2 3 4;", -2, 18);
        text("night 6;sky 1 -2 3;", -2, 14);
        text("night 6;moon 0 0 - 1 0 0 0;", -2, 17);
        text("night 6;moon 0 0 --1 0 0 0;", -2, 17);
        text("night 6;moon 0 0 -", -2, 17);
        text("night 6;moon 0 0 -;", -2, 17);
        text("night 6;moon 0 0 -0 0 0 0;", 0, -1);
        text("night 6;target 0 0 0 -1 -1 0 0 1 1;", -2, 24);
    }

    private void promise3ValueErrors() {
        text("night 0;", -3, 6);
        text("night 13;", -3, 6);
        text("night 13x", -3, 6);
        text("night  1;", 0, -1);
        text("night 12;", 0, -1);
        text("night 99999999999999999999;", -3, 6);
        text("night 4294967302;", -3, 6);
        text("night 00000000000000000000006;", 0, -1);
        text("night 6;moon 0 0 -99999999999999999999 0 0 0;", -3, 17);
        ranges("moon", new int[] {0, 0, -10, 0, 0, 0}, new int[] {90, 30, 25, 359, 359, 100});
        ranges("sky", new int[] {0, 0, 0}, new int[] {100, 100, 100});
        ranges("target", new int[] {0, 0, 0, -10, 0, 0, 0, 1, 1},
                new int[] {3, 90, 30, 25, 89, 359, 180, 3, 1000});
    }

    /** Each number at both ends of its range, and one beyond them. */
    private void ranges(String word, int[] low, int[] high) {
        int good = word.equals("target") ? 1 : 0;
        for (int at = 0; at < low.length; at++) {
            text(part(word, high, at, low[at]), good, -1);
            text(part(word, low, at, high[at]), good, -1);
            text(part(word, low, at, high[at] + 1), -3, start(word, low, at));
            int below = low[at] - 1;
            text(part(word, low, at, below), below == -1 ? -2 : -3, start(word, low, at));
        }
    }

    private static String part(String word, int[] numbers, int at, int value) {
        StringBuilder text = new StringBuilder("night 6;" + word);
        for (int i = 0; i < numbers.length; i++) {
            text.append(" ").append(i == at ? value : numbers[i]);
        }
        return text.append(";").toString();
    }

    private static int start(String word, int[] numbers, int at) {
        int position = 8 + word.length() + 1;
        for (int i = 0; i < at; i++) {
            position += Integer.toString(numbers[i]).length() + 1;
        }
        return position;
    }

    private void promise3TooMany() {
        String six = "night 6;" + "target 0 0 0 0 0 0 0 1 1;".repeat(6);
        text(six, 6, -1);
        text(six + "target 0 0 0 0 0 0 0 1 1;", -4, 158);
        text(six + "  target", -4, 160);
        text(six + "target 9", -4, 158);
        text(six + "targets", -2, 158);
        text(six + "sky 1 2 3;", 6, -1);
    }

    private void promise4ErrorPosition() {
        TelescopeNight x = new TelescopeNight();
        check.refuses("4 load", ARGUMENT, () -> x.load(9));
        check.is("4 only a call that threw", -1, x::errorPosition);
        Check.load(x, "night 99;");
        check.is("4 behind an error", 6, x::errorPosition);
        check.refuses("4 load", ARGUMENT, () -> x.load(-9));
        check.is("4 a call that throws changes nothing", 6, x::errorPosition);
        x.pass();
        x.undo();
        check.is("4 other calls change nothing", 6, x::errorPosition);
        Check.load(x, "night 9;");
        check.is("4 behind a good text", -1, x::errorPosition);
    }

    private void promise5Count() {
        TelescopeNight x = Check.nightOf("night 3;target 1 80 0 0 10 0 0 2 10;"
                + "target 3 80 0 0 10 0 0 1 7;");
        int[] atFirst = {3, 2, 10, 0, 0, 0, 0};
        x.look(true);
        int[] clear = {3, 2, 10, 0, 0, 1, 0};
        counts(x, clear);
        x.undo();
        counts(x, atFirst);
        x.look(false);
        counts(x, new int[] {3, 2, 10, 0, 0, 2, 0});
        x.pass();
        x.look(true);
        x.expose(1);
        counts(x, new int[] {3, 2, 10, 2, 7, 0, 1});
        x.look(true);
        x.expose(0);
        counts(x, new int[] {3, 2, 10, 3, 17, 0, 2});
        check.refuses("5 count -1", ARGUMENT, () -> x.count(-1));
        check.refuses("5 count 7", ARGUMENT, () -> x.count(7));
        check.refuses("5 count least", ARGUMENT, () -> x.count(LEAST));
    }

    private void counts(TelescopeNight x, int[] due) {
        for (int what = 0; what < due.length; what++) {
            int w = what;
            check.is("5 count " + w, due[w], () -> x.count(w));
        }
    }

    private void promise6Height() {
        TelescopeNight x = Check.nightOf("night 5;target 0 60 10 1 20 0 0 1 1;"
                + "target 0 90 30 -10 0 0 0 1 1;target 0 90 30 25 0 0 0 1 1;");
        int[] due = {50, 60, 50, 20, -30};
        for (int slot = 0; slot < due.length; slot++) {
            int s = slot;
            check.is("6 height 0 " + s, due[s], () -> x.height(0, s));
        }
        check.is("6 height 1 4", 90 - 30 * 196, () -> x.height(1, 4));
        check.is("6 height 2 0", 90 - 30 * 625, () -> x.height(2, 0));
        check.refuses("6 target -1", INDEX, () -> x.height(-1, 0));
        check.refuses("6 target 3", INDEX, () -> x.height(3, 0));
        check.refuses("6 slot -1", INDEX, () -> x.height(0, -1));
        check.refuses("6 slot 5", INDEX, () -> x.height(0, 5));
        check.refuses("6 most", INDEX, () -> x.height(MOST, MOST));
    }

    private void promise7MoonHeight() {
        TelescopeNight x = Check.nightOf("night 4;moon 40 20 1 0 0 50;");
        int[] due = {20, 40, 20, -40};
        for (int slot = 0; slot < due.length; slot++) {
            int s = slot;
            check.is("7 moonHeight " + s, due[s], () -> x.moonHeight(s));
        }
        check.refuses("7 slot -1", INDEX, () -> x.moonHeight(-1));
        check.refuses("7 slot 4", INDEX, () -> x.moonHeight(4));
        check.refuses("7 least", INDEX, () -> x.moonHeight(LEAST));
    }

    private void promise8MoonDistance() {
        TelescopeNight x = Check.nightOf("night 4;moon 40 20 1 10 100 50;"
                + "target 0 60 0 0 0 350 0 1 1;target 0 60 0 0 0 100 0 1 1;");
        // Target 0: 350, 5, 20, 35; target 1: 100, 115, 130, 145; the moon: 10, 110, 210, 310.
        int[] first = {20, 105, 170, 85};
        int[] second = {90, 5, 80, 165};
        for (int slot = 0; slot < 4; slot++) {
            int s = slot;
            check.is("8 distance 0 " + s, first[s], () -> x.moonDistance(0, s));
            check.is("8 distance 1 " + s, second[s], () -> x.moonDistance(1, s));
        }
        check.refuses("8 target 2", INDEX, () -> x.moonDistance(2, 0));
        check.refuses("8 target -1", INDEX, () -> x.moonDistance(-1, 0));
        check.refuses("8 slot 4", INDEX, () -> x.moonDistance(0, 4));
        check.refuses("8 slot -1", INDEX, () -> x.moonDistance(0, -1));
    }

    private void promise9And10Window() {
        // The moon is up in the slots 0 to 2 and at 0 in slot 3; the distances are 20, 35, 50, 65.
        String text = "night 4;moon 45 5 0 0 0 51;target 0 60 5 0 40 20 99 1 1;"
                + "target 0 60 5 0 41 20 101 1 1;target 0 60 5 0 16 20 180 1 1;";
        TelescopeNight x = Check.nightOf(text);
        // 99 * 51 / 100 is 50: slot 2 is far enough. The height 40 in slot 2 is enough for 40.
        check.is("9 window 0", 4, () -> x.window(0));
        // The height 40 in slot 2 is not enough for 41.
        check.is("9 window 1", 0, () -> x.window(1));
        // 180 * 51 / 100 is 91: never far enough, but a height of the moon of 0 is not above 0;
        // the target is at 15 then, below 16.
        check.is("9 window 2", 0, () -> x.window(2));
        check.is("10 observable 0", 0, () -> x.observable(0));
        check.is("10 observable 2", 1, () -> x.observable(2));
        TelescopeNight y = Check.nightOf(text.replace(" 16 20 180", " 15 20 180"));
        check.is("9 window at the moon's height 0", 8, () -> y.window(2));
        check.is("10 observable 3", 4, () -> y.observable(3));
        check.refuses("9 target -1", INDEX, () -> x.window(-1));
        check.refuses("9 target 3", INDEX, () -> x.window(3));
        check.refuses("10 slot -1", INDEX, () -> x.observable(-1));
        check.refuses("10 slot 4", INDEX, () -> x.observable(4));
        TelescopeNight z = Check.nightOf("night 12;target 0 0 0 0 0 0 180 1 1;");
        check.is("9 all slots", 4095, () -> z.window(0));
    }

    private void promise11HighestSlot() {
        TelescopeNight x = Check.nightOf("night 6;moon 90 30 2 0 15 100;"
                + "target 0 80 5 2 10 0 10 1 1;target 0 80 0 0 10 180 0 1 1;"
                + "target 0 10 5 2 11 0 0 1 1;target 0 20 1 25 0 0 0 1 1;");
        // The moon stands beside target 0 in all slots, and is up in the slots 1 to 3.
        check.is("11 away from the moon, the first of two", 0, () -> x.highestSlot(0));
        check.is("11 the first of equals", 0, () -> x.highestSlot(1));
        check.refuses("11 in no slot", ELEMENT, () -> x.highestSlot(2));
        check.refuses("11 below the ground", ELEMENT, () -> x.highestSlot(3));
        check.refuses("11 target 4", INDEX, () -> x.highestSlot(4));
        check.refuses("11 target -1", INDEX, () -> x.highestSlot(-1));
        TelescopeNight y = Check.nightOf("night 6;target 0 80 5 4 10 0 10 1 1;");
        check.is("11 the highest", 4, () -> y.highestSlot(0));
    }

    private void promise12LatestStart() {
        // Target 0 can be observed in the slots 1 to 3, target 1 in the slots 0 and 1.
        TelescopeNight x = Check.nightOf("night 5;target 0 80 20 2 60 0 0 2 1;"
                + "target 0 80 20 0 60 0 0 2 1;target 0 80 20 0 60 0 0 3 1;");
        check.is("12 latestStart 0", 2, () -> x.latestStart(0));
        check.is("12 latestStart 1", 0, () -> x.latestStart(1));
        check.refuses("12 too few slots", ELEMENT, () -> x.latestStart(2));
        x.look(true);
        x.expose(1);
        check.is("12 one less", 1, () -> x.latestStart(1));
        x.look(true);
        x.expose(1);
        check.is("12 no more", 5, () -> x.latestStart(1));
        x.pass();
        check.refuses("12 too late", ELEMENT, () -> x.latestStart(0));
        x.pass();
        x.pass();
        check.refuses("12 over", ELEMENT, () -> x.latestStart(0));
        check.is("12 no more, over", 5, () -> x.latestStart(1));
        check.refuses("12 target 3", INDEX, () -> x.latestStart(3));
        check.refuses("12 target -1", INDEX, () -> x.latestStart(-1));
    }

    private void promise13ClearOdds() {
        TelescopeNight x = Check.nightOf("night 4;sky 33 77 11;");
        // 330000; then 254100 + 73700; then 252406 + 73942; then 251287.96 + 74101.72.
        int[] due = {330000, 327800, 326348, 325389};
        for (int slot = 0; slot < 4; slot++) {
            int s = slot;
            check.is("13 clearOdds " + s, due[s], () -> x.clearOdds(s));
        }
        x.look(true);
        x.pass();
        check.is("13 what was seen does not matter", 327800, () -> x.clearOdds(1));
        check.refuses("13 slot 4", INDEX, () -> x.clearOdds(4));
        check.refuses("13 slot -1", INDEX, () -> x.clearOdds(-1));
        TelescopeNight y = Check.nightOf("night 12;sky 100 100 0;");
        check.is("13 for ever clear", 1000000, () -> y.clearOdds(11));
    }

    private void promise14ClearRun() {
        TelescopeNight x = Check.nightOf("night 4;sky 33 77 11;");
        check.is("14 one slot", 327800, () -> x.clearRun(1, 1));
        // 327800, 252406, 194352.62: rounded down each time.
        check.is("14 three slots", 194352, () -> x.clearRun(1, 3));
        // 330000, 254100, 195657, 150655.89.
        check.is("14 all slots", 150655, () -> x.clearRun(0, 3));
        check.refuses("14 backwards", ARGUMENT, () -> x.clearRun(2, 1));
        check.refuses("14 from 4", INDEX, () -> x.clearRun(4, 1));
        check.refuses("14 to 4", INDEX, () -> x.clearRun(0, 4));
        check.refuses("14 to -1", INDEX, () -> x.clearRun(0, -1));
        check.refuses("14 from -1", INDEX, () -> x.clearRun(-1, -2));
    }

    private void promise15Look() {
        TelescopeNight x = Check.nightOf(TWO_TEAMS);
        check.is("15 cloudy", 0, () -> x.look(false));
        check.refuses("15 known", STATE, () -> x.look(true));
        x.pass();
        check.is("15 clear", 3, () -> x.look(true));
        check.refuses("15 known", STATE, () -> x.look(false));
        x.expose(0);
        check.is("15 the other team", 2, () -> x.look(true));
        x.expose(1);
        check.is("15 enough exposures", 1, () -> x.look(true));
        x.expose(0);
        check.refuses("15 over", STATE, () -> x.look(true));
        TelescopeNight y = new TelescopeNight();
        check.is("15 without targets", 0, () -> y.look(true));
    }

    private void promise16Expose() {
        TelescopeNight x = Check.nightOf("night 4;target 2 80 20 0 60 0 0 1 10;"
                + "target 2 80 0 0 60 0 0 3 7;target 0 80 20 1 80 0 0 1 1000;");
        check.refuses("16 unknown sky", STATE, () -> x.expose(0));
        x.look(false);
        check.refuses("16 cloudy", STATE, () -> x.expose(0));
        check.refuses("16 the target comes first", INDEX, () -> x.expose(3));
        x.undo();
        x.look(true);
        check.refuses("16 not to be observed", STATE, () -> x.expose(2));
        check.is("16 expose 0", 10, () -> x.expose(0));
        check.is("16 the next slot", 1, () -> x.count(3));
        check.is("16 its sky", 0, () -> x.count(5));
        check.refuses("16 unknown sky again", STATE, () -> x.expose(2));
        x.look(true);
        check.refuses("16 not in turn", STATE, () -> x.expose(1));
        check.is("16 expose 2", 1010, () -> x.expose(2));
        x.look(true);
        check.refuses("16 as many as wanted", STATE, () -> x.expose(0));
        check.is("16 expose 1", 1017, () -> x.expose(1));
        x.look(true);
        x.waive(2);
        check.refuses("16 waived", STATE, () -> x.expose(1));
        x.pass();
        check.refuses("16 over", STATE, () -> x.expose(1));
        check.refuses("16 target -1", INDEX, () -> x.expose(-1));
        check.refuses("16 target most", INDEX, () -> x.expose(MOST));
    }

    private void promise17Pass() {
        TelescopeNight x = Check.nightOf("night 2;");
        check.is("17 pass", 1, x::pass);
        x.look(true);
        check.is("17 pass to the end", 2, x::pass);
        check.is("17 no sky", 0, () -> x.count(5));
        check.refuses("17 over", STATE, x::pass);
        check.is("17 it stays unknown", 0, () -> x.past(0, 1));
        check.is("17 it was clear", 1, () -> x.past(1, 1));
        check.is("17 no exposure", -1, () -> x.past(1, 0));
    }

    private void promise18Waive() {
        TelescopeNight x = Check.nightOf("night 4;target 0 80 0 0 0 0 0 3 1;"
                + "target 1 80 0 0 0 0 0 3 1;target 3 80 0 0 0 0 0 3 1;");
        check.refuses("18 no targets", STATE, () -> x.waive(2));
        check.refuses("18 team 4", INDEX, () -> x.waive(4));
        check.refuses("18 team -1", INDEX, () -> x.waive(-1));
        x.look(true);
        x.expose(0);
        check.is("18 in turn", 10, x::inTurn);
        check.is("18 waive 1", 8, () -> x.waive(1));
        check.refuses("18 again", STATE, () -> x.waive(1));
        check.is("18 waive 3", 1, () -> x.waive(3));
        check.is("18 waive 0", 0, () -> x.waive(0));
        check.refuses("18 all have waived", STATE, () -> x.waive(0));
        x.pass();
        x.pass();
        x.pass();
        x.undo();
        restart(x);
        x.pass();
        x.pass();
        x.pass();
        x.pass();
        check.is("18 behind the night", 9, () -> x.waive(1));
    }

    private void promise19Restart() {
        TelescopeNight x = Check.nightOf(TWO_TEAMS);
        x.look(true);
        x.expose(0);
        x.waive(1);
        x.look(true);
        restart(x);
        counts(x, new int[] {4, 2, 3, 0, 0, 0, 0});
        check.is("19 nobody has waived", 3, x::inTurn);
        check.is("19 exposures", 0, () -> x.exposures(0));
        check.is("19 turns", 0, () -> x.turnsOf(0));
        check.refuses("19 no past", INDEX, () -> x.past(0, 0));
        check.is("19 it is a change", 5, x::undo);
        check.is("19 undone", 1, () -> x.count(3));
    }

    private void promise20InTurn() {
        TelescopeNight x = Check.nightOf("night 6;target 0 80 0 0 0 0 0 1 1;"
                + "target 2 80 0 0 0 0 0 3 1;target 3 0 0 0 1 0 0 1 1;");
        check.is("20 at first", 13, x::inTurn);
        x.look(true);
        x.expose(1);
        check.is("20 behind a turn", 9, x::inTurn);
        x.look(true);
        x.expose(0);
        check.is("20 one waits for ever", 8, x::inTurn);
        x.waive(3);
        check.is("20 it has waived", 5, x::inTurn);
        x.look(true);
        x.expose(1);
        check.is("20 one without wishes is in turn", 1, x::inTurn);
        x.waive(0);
        check.is("20 alone", 4, x::inTurn);
        x.look(true);
        x.expose(1);
        check.is("20 nothing is left to do", 4, x::inTurn);
    }

    private void promise21And22Turns() {
        TelescopeNight x = Check.nightOf("night 6;target 2 80 0 0 0 0 0 1 1;"
                + "target 2 80 0 0 0 0 0 3 1;");
        x.look(true);
        x.expose(1);
        x.look(true);
        x.expose(0);
        x.look(true);
        x.expose(1);
        check.is("21 turnsOf 2", 3, () -> x.turnsOf(2));
        check.is("21 turnsOf 0", 0, () -> x.turnsOf(0));
        check.is("21 turnsOf 3", 0, () -> x.turnsOf(3));
        check.refuses("21 team 4", INDEX, () -> x.turnsOf(4));
        check.refuses("21 team -1", INDEX, () -> x.turnsOf(-1));
        check.is("22 exposures 0", 1, () -> x.exposures(0));
        check.is("22 exposures 1", 2, () -> x.exposures(1));
        check.refuses("22 target 2", INDEX, () -> x.exposures(2));
        check.refuses("22 target -1", INDEX, () -> x.exposures(-1));
    }

    private void promise23Past() {
        TelescopeNight x = Check.nightOf(TWO_TEAMS);
        check.refuses("23 nothing is over", INDEX, () -> x.past(0, 0));
        x.look(true);
        x.expose(1);
        x.look(false);
        x.pass();
        x.pass();
        int[] targets = {1, -1, -1};
        int[] skies = {1, 2, 0};
        for (int slot = 0; slot < 3; slot++) {
            int s = slot;
            check.is("23 target " + s, targets[s], () -> x.past(s, 0));
            check.is("23 sky " + s, skies[s], () -> x.past(s, 1));
        }
        check.refuses("23 the present slot", INDEX, () -> x.past(3, 0));
        check.refuses("23 the slot comes first", INDEX, () -> x.past(3, 2));
        check.refuses("23 slot 4", INDEX, () -> x.past(4, 0));
        check.refuses("23 slot -1", INDEX, () -> x.past(-1, 0));
        check.refuses("23 what 2", ARGUMENT, () -> x.past(0, 2));
        check.refuses("23 what -1", ARGUMENT, () -> x.past(0, -1));
        x.pass();
        check.refuses("23 behind the last slot", INDEX, () -> x.past(4, 0));
        check.is("23 the last slot", 0, () -> x.past(3, 1));
    }

    private void plan(TelescopeNight x, String name, long value, int... due) {
        check.is("24 " + name, value, x::planValue);
        int present = x.count(3);
        for (int i = 0; i < due.length; i++) {
            int slot = present + i;
            check.is("25 " + name + " slot " + slot, due[i], () -> x.planned(slot));
        }
    }

    private void promise24And25Plan() {
        TelescopeNight x = Check.nightOf(TWO_TEAMS);
        // The turns go one by one, so three exposures are the most: 7 * 0.55, 10 * 0.575, 10 * 0.5875.
        plan(x, "at first", 15475000, -1, 1, 0, 0);
        check.refuses("25 slot 4", INDEX, () -> x.planned(4));
        check.refuses("25 slot -1", INDEX, () -> x.planned(-1));
        x.look(false);
        plan(x, "cloudy", 15475000, -1, 1, 0, 0);
        x.pass();
        plan(x, "the clear odds stay", 15475000, 1, 0, 0);
        check.refuses("25 a slot that is over", INDEX, () -> x.planned(0));
        x.look(false);
        // 10 * 0.575 + 7 * 0.5875 and 7 * 0.575 + 10 * 0.5875.
        plan(x, "cloudy again", 9900000, -1, 1, 0);
        x.undo();
        x.look(true);
        // 10 + 7 * 0.575 + 10 * 0.5875.
        plan(x, "clear", 19900000, 0, 1, 0);
        x.expose(1);
        plan(x, "with one exposure", 11625000, 0, 0);
        x.waive(0);
        plan(x, "waived", 0, -1, -1);
        x.pass();
        x.pass();
        check.is("24 over", 0, x::planValue);
        check.refuses("25 over", INDEX, () -> x.planned(3));
    }

    private void promise25FirstOfSeveral() {
        TelescopeNight equals = Check.nightOf("night 3;sky 50 50 50;"
                + "target 0 80 0 0 0 0 0 1 5;target 0 80 0 0 0 0 0 1 5;");
        plan(equals, "equal odds", 5000000, 0, 1, -1);
        TelescopeNight hopeless = Check.nightOf("night 3;sky 0 0 0;"
                + "target 0 80 30 1 80 0 0 1 5;target 0 80 0 0 0 0 0 1 5;");
        plan(hopeless, "without odds a target is before none", 0, 1, 0, -1);
    }

    private void promise26PlanValueWith() {
        TelescopeNight x = Check.nightOf(TWO_TEAMS);
        check.is("26 slot 0 target 0", 14900000, () -> x.planValueWith(0, 0));
        check.is("26 slot 0 target 1", 15125000, () -> x.planValueWith(0, 1));
        check.is("26 slot 3 target 0", 15475000, () -> x.planValueWith(3, 0));
        check.is("26 slot 3 target 1", 9862500, () -> x.planValueWith(3, 1));
        check.refuses("26 slot 4", INDEX, () -> x.planValueWith(4, 0));
        check.refuses("26 slot -1", INDEX, () -> x.planValueWith(-1, 0));
        check.refuses("26 target 2", INDEX, () -> x.planValueWith(0, 2));
        check.refuses("26 target -1", INDEX, () -> x.planValueWith(0, -1));
        x.look(false);
        check.refuses("26 cloudy", ELEMENT, () -> x.planValueWith(0, 0));
        x.pass();
        check.refuses("26 a slot that is over", INDEX, () -> x.planValueWith(0, 0));
        x.look(true);
        x.expose(1);
        check.refuses("26 no more exposures wanted", ELEMENT, () -> x.planValueWith(2, 1));
        TelescopeNight y = Check.nightOf("night 2;sky 0 0 0;target 0 80 30 0 80 0 0 1 5;");
        check.is("26 a plan of value 0", 0, () -> y.planValueWith(0, 0));
        check.refuses("26 not to be observed", ELEMENT, () -> y.planValueWith(1, 0));
    }

    private void promise27PlanCount() {
        TelescopeNight x = Check.nightOf(TWO_TEAMS);
        check.is("27 one", 1, x::planCount);
        TelescopeNight y = Check.nightOf("night 3;sky 50 50 50;"
                + "target 0 80 0 0 0 0 0 1 5;target 0 80 0 0 0 0 0 1 5;");
        check.is("27 two targets in three slots", 6, y::planCount);
        TelescopeNight z = Check.nightOf("night 2;sky 0 0 0;target 0 80 0 0 0 0 0 1 5;");
        check.is("27 without odds", 3, z::planCount);
        z.look(false);
        check.is("27 cloudy", 2, z::planCount);
        z.pass();
        z.pass();
        check.is("27 over", 1, z::planCount);
    }

    private void promise28Worth() {
        TelescopeNight x = Check.nightOf(TWO_TEAMS);
        // Without a target its team waits all the same, so the other team has one turn.
        check.is("28 worth 0", 15475000 - 4112500, () -> x.worth(0));
        check.is("28 worth 1", 15475000 - 5875000, () -> x.worth(1));
        check.refuses("28 target 2", INDEX, () -> x.worth(2));
        check.refuses("28 target -1", INDEX, () -> x.worth(-1));
        x.pass();
        x.pass();
        x.pass();
        x.pass();
        check.is("28 over", 0, () -> x.worth(0));
    }

    private void promise29PriceOfTurns() {
        TelescopeNight x = Check.nightOf(TWO_TEAMS);
        check.is("29 none", 0, x::priceOfTurns);
        TelescopeNight y = Check.nightOf(BLOCKED);
        // 7 * 0.5 + 10 * (0.55 + 0.575 + 0.5875) instead of 15.475.
        check.is("29 blocked", 5150000, y::priceOfTurns);
        y.waive(1);
        check.is("29 waived", 0, y::priceOfTurns);
    }

    private void promise30MostExposures() {
        TelescopeNight x = Check.nightOf(BLOCKED);
        check.is("30 with turns", 3, () -> x.mostExposures(true));
        check.is("30 without", 4, () -> x.mostExposures(false));
        x.look(false);
        check.is("30 with turns, cloudy", 3, () -> x.mostExposures(true));
        check.is("30 without, cloudy", 3, () -> x.mostExposures(false));
        x.waive(0);
        check.is("30 waived", 1, () -> x.mostExposures(false));
        TelescopeNight y = Check.nightOf("night 3;sky 0 0 0;target 0 80 0 0 0 0 0 3 5;");
        check.is("30 the odds do not matter", 3, () -> y.mostExposures(true));
        check.is("30 nothing", 0, () -> new TelescopeNight().mostExposures(false));
    }

    private void promise31GreedyValue() {
        TelescopeNight x = Check.nightOf(TWO_TEAMS);
        // 10 * 0.5 + 7 * 0.55 + 10 * 0.575.
        check.is("31 at first", 14600000, x::greedyValue);
        x.look(true);
        check.is("31 clear", 19600000, x::greedyValue);
        x.undo();
        x.look(false);
        // 10 * 0.55 + 7 * 0.575 + 10 * 0.5875.
        check.is("31 cloudy", 15400000, x::greedyValue);
        TelescopeNight y = Check.nightOf("night 2;sky 50 50 50;target 1 80 0 0 0 0 0 1 5;"
                + "target 2 80 0 0 0 0 0 1 5;target 1 80 30 1 80 0 0 1 5;");
        // The lowest of equals is target 0, then it is team 2's turn.
        check.is("31 equals", 5000000, y::greedyValue);
        TelescopeNight z = Check.nightOf(ONE_TURN);
        check.is("31 greedy to its loss", 500000, z::greedyValue);
        z.pass();
        z.pass();
        check.is("31 over", 0, z::greedyValue);
    }

    private void promise32MeanValue() {
        TelescopeNight x = Check.nightOf(ONE_TARGET);
        // Clear: 10; cloudy: 0.3 * 10.
        check.is("32 at first", 6500000, x::meanValue);
        x.pass();
        // The clear odds of slot 1 are 550000, 55 percent.
        check.is("32 not looked at", 5500000, x::meanValue);
        x.undo();
        x.look(true);
        check.is("32 clear", 10000000, x::meanValue);
        x.pass();
        check.is("32 behind clear", 8000000, x::meanValue);
        x.undo();
        x.undo();
        x.look(false);
        check.is("32 cloudy", 3000000, x::meanValue);
        x.pass();
        check.is("32 behind cloudy", 3000000, x::meanValue);
        x.pass();
        check.is("32 over", 0, x::meanValue);
        TelescopeNight y = Check.nightOf(ONE_TURN);
        check.is("32 waiting is best", 55000000, y::meanValue);
        TelescopeNight z = Check.nightOf("night 3;sky 33 77 11;target 0 80 0 0 0 0 0 1 1;");
        z.pass();
        z.pass();
        // The clear odds are 326348: 32 percent, rounded down.
        check.is("32 the odds in percent", 320000, z::meanValue);
        TelescopeNight r = Check.nightOf("night 4;sky 37 41 59;target 0 80 30 3 80 0 0 1 1;");
        // Slot 2: 410000, 590000; slot 1: 516200, 483800; slot 0: 497084, 502916; rounded 500758.16.
        check.is("32 rounded down", 500758, r::meanValue);
    }

    private void promise33MeanValueOf() {
        TelescopeNight x = Check.nightOf(ONE_TURN);
        check.refuses("33 unknown", STATE, () -> x.meanValueOf(0));
        check.refuses("33 the target comes first", INDEX, () -> x.meanValueOf(3));
        x.look(true);
        check.is("33 it costs the turn", 1000000, () -> x.meanValueOf(0));
        check.refuses("33 not to be observed", STATE, () -> x.meanValueOf(1));
        check.refuses("33 target -1", INDEX, () -> x.meanValueOf(-1));
        x.pass();
        x.look(true);
        check.is("33 in the last slot", 100000000, () -> x.meanValueOf(1));
        x.undo();
        x.look(false);
        check.refuses("33 cloudy", STATE, () -> x.meanValueOf(1));
        x.pass();
        check.refuses("33 over", STATE, () -> x.meanValueOf(1));
        TelescopeNight y = Check.nightOf(TWO_TEAMS);
        y.look(true);
        y.expose(0);
        y.look(true);
        check.refuses("33 not in turn", STATE, () -> y.meanValueOf(0));
    }

    private void promise34Decision() {
        TelescopeNight x = Check.nightOf(ONE_TURN);
        check.refuses("34 unknown", STATE, x::decision);
        x.look(true);
        check.is("34 waiting is best", -1, x::decision);
        x.pass();
        x.look(true);
        check.is("34 the dear one", 1, x::decision);
        x.undo();
        x.look(false);
        check.is("34 cloudy", -1, x::decision);
        x.pass();
        check.refuses("34 over", STATE, x::decision);
        TelescopeNight y = Check.nightOf("night 2;sky 50 100 0;target 0 80 0 0 0 0 0 1 5;"
                + "target 0 80 0 0 0 0 0 1 5;");
        y.look(true);
        check.is("34 the lowest of equals", 0, y::decision);
        TelescopeNight z = Check.nightOf("night 2;sky 50 100 0;target 0 80 0 0 0 0 0 1 5;");
        z.look(true);
        check.is("34 an exposure that is as good as none", 0, z::decision);
    }

    private void promise35MeanExposures() {
        TelescopeNight x = Check.nightOf(ONE_TURN);
        check.is("35 never taken", 0, () -> x.meanExposures(0));
        check.is("35 the dear one", 550000, () -> x.meanExposures(1));
        check.is("35 never seen", 0, () -> x.meanExposures(2));
        check.refuses("35 target 3", INDEX, () -> x.meanExposures(3));
        check.refuses("35 target -1", INDEX, () -> x.meanExposures(-1));
        x.look(false);
        check.is("35 cloudy", 300000, () -> x.meanExposures(1));
        x.pass();
        x.look(true);
        check.is("35 clear", 1000000, () -> x.meanExposures(1));
        check.is("35 clear, the other one", 0, () -> x.meanExposures(0));
        x.expose(1);
        check.is("35 over", 0, () -> x.meanExposures(1));
        TelescopeNight y = Check.nightOf("night 2;sky 50 80 30;target 0 80 0 0 0 0 0 2 5;");
        // Clear: 1 + 0.8; cloudy: 0.3.
        check.is("35 two exposures", 1050000, () -> y.meanExposures(0));
    }

    private void promise36FinishOdds() {
        TelescopeNight x = Check.nightOf("night 2;sky 50 80 30;target 0 80 0 0 0 0 0 2 5;"
                + "target 0 80 0 0 0 0 0 1 4;");
        // Both slots must be clear.
        check.is("36 two exposures", 400000, () -> x.finishOdds(0));
        // Target 1 is the best decision only behind two exposures of target 0.
        check.is("36 the cheap one", 0, () -> x.finishOdds(1));
        check.refuses("36 target 2", INDEX, () -> x.finishOdds(2));
        check.refuses("36 target -1", INDEX, () -> x.finishOdds(-1));
        x.look(true);
        x.expose(0);
        check.is("36 behind one exposure", 800000, () -> x.finishOdds(0));
        x.look(true);
        check.is("36 clear", 1000000, () -> x.finishOdds(0));
        x.expose(1);
        check.is("36 over, not finished", 0, () -> x.finishOdds(0));
        check.is("36 over, finished", 1000000, () -> x.finishOdds(1));
        x.undo();
        x.undo();
        x.look(false);
        check.is("36 cloudy", 0, () -> x.finishOdds(0));
    }

    private void promise37GreedyMean() {
        TelescopeNight x = Check.nightOf(ONE_TURN);
        // Clear: 1, and the turn is gone; cloudy: 0.3 * 100.
        check.is("37 greedy to its loss", 15500000, x::greedyMean);
        x.look(true);
        check.is("37 clear", 1000000, x::greedyMean);
        x.undo();
        x.look(false);
        check.is("37 cloudy", 30000000, x::greedyMean);
        x.pass();
        x.pass();
        check.is("37 over", 0, x::greedyMean);
        // One of two equal targets can be observed in slot 0 alone; the lowest one is taken there.
        TelescopeNight y = Check.nightOf("night 2;sky 100 100 0;target 0 80 30 0 80 0 0 1 5;"
                + "target 0 80 0 0 0 0 0 1 5;");
        check.is("37 the lowest of equals", 10000000, y::greedyMean);
        TelescopeNight z = Check.nightOf("night 2;sky 100 100 0;target 0 80 0 0 0 0 0 1 5;"
                + "target 0 80 30 0 80 0 0 1 5;");
        check.is("37 the lowest of equals, to its loss", 5000000, z::greedyMean);
    }

    private void promise38WorthOfClear() {
        TelescopeNight x = Check.nightOf(ONE_TARGET);
        check.is("38 unknown", 7000000, x::worthOfClear);
        x.look(true);
        check.is("38 clear", 7000000, x::worthOfClear);
        x.undo();
        x.look(false);
        check.is("38 cloudy", 7000000, x::worthOfClear);
        x.pass();
        check.is("38 the last slot", 10000000, x::worthOfClear);
        x.pass();
        check.refuses("38 over", STATE, x::worthOfClear);
        TelescopeNight y = Check.nightOf("night 2;sky 50 0 100;target 0 80 30 1 80 0 0 1 10;");
        check.is("38 less than nothing", -10000000, y::worthOfClear);
    }

    private void promise39Undo() {
        TelescopeNight x = Check.nightOf(TWO_TEAMS);
        check.is("39 undo a load", 0, x::undo);
        check.is("39 the first night", 6, () -> x.count(0));
        check.refuses("39 nothing is left", STATE, x::undo);
        Check.load(x, TWO_TEAMS);
        x.look(true);
        x.expose(0);
        x.waive(1);
        x.pass();
        check.refuses("39 a call that throws is no change", STATE, () -> x.expose(0));
        check.is("39 nor a load with an error", -2, () -> Check.load(x, "no"));
        append(x);
        check.is("39 undo pass", 4, x::undo);
        check.is("39 the buffer stays", 40, () -> append(x));
        check.is("39 undo waive", 3, x::undo);
        check.is("39 not waived", 2, x::inTurn);
        check.is("39 undo expose", 2, x::undo);
        counts(x, new int[] {4, 2, 3, 0, 0, 1, 0});
        check.is("39 no exposures", 0, () -> x.exposures(0));
        check.is("39 undo look", 1, x::undo);
        check.is("39 unknown", 0, () -> x.count(5));
        check.is("39 answers are worked out again", 15475000, x::planValue);
        undoARestart();
        undoEightAtMost();
    }

    private void undoARestart() {
        TelescopeNight x = Check.nightOf(TWO_TEAMS);
        x.look(true);
        x.expose(0);
        x.restart();
        x.look(false);
        x.pass();
        check.is("39 undo pass", 5, x::undo);
        check.is("39 undo look", 4, x::undo);
        check.is("39 undo restart", 3, x::undo);
        check.is("39 the target of the past is back", 0, () -> x.past(0, 0));
        check.is("39 the sky of the past is back", 1, () -> x.past(0, 1));
    }

    private void undoEightAtMost() {
        TelescopeNight x = Check.nightOf("night 12;target 0 80 0 0 0 0 0 1 5;");
        for (int i = 0; i < 9; i++) {
            x.pass();
        }
        for (int left = 7; left >= 5; left--) {
            check.is("39 undo", left, x::undo);
        }
        check.is("39 three slots back", 6, () -> x.count(3));
        restart(x);
        check.is("39 one more", 5, x::undo);
        for (int left = 4; left >= 0; left--) {
            check.is("39 undo", left, x::undo);
        }
        check.is("39 the ninth change stays", 1, () -> x.count(3));
        check.refuses("39 eight are the most", STATE, x::undo);
        x.pass();
        check.is("39 and on", 0, x::undo);
    }
}
