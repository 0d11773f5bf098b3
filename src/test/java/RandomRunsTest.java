import java.util.Random;

/** Random runs of calls on a night and on the naive one: each answer must be the same. */
public final class RandomRunsTest {
    private static final int[] ODD_NUMBERS =
            {-1, -2, 7, 12, 13, 31, 32, 100, Integer.MAX_VALUE, Integer.MIN_VALUE};

    private final Check check;
    private final Random random;
    private TelescopeNight night;
    private NaiveNight naive;
    private String run = "";

    private RandomRunsTest(Check check, long seed) {
        this.check = check;
        this.random = new Random(seed);
    }

    public static void main(String[] args) {
        Check check = new Check("RandomRunsTest");
        for (int seed = 0; seed < 700 && !check.hasManyFaults(); seed++) {
            new RandomRunsTest(check, seed).goThroughARun(seed);
        }
        check.end();
    }

    private void goThroughARun(int seed) {
        night = new TelescopeNight();
        naive = new NaiveNight();
        run = "run " + seed;
        int calls = 10 + random.nextInt(60);
        for (int i = 0; i < calls && !check.hasManyFaults(); i++) {
            if (i == 0 || random.nextInt(25) == 0) {
                loadNight();
            }
            change();
            for (int k = random.nextInt(20) == 0 ? random.nextInt(9) : 0; k > 0; k--) {
                compare("undo", night::undo, naive::undo);
            }
            for (int k = random.nextInt(6); k > 0; k--) {
                ask();
            }
        }
        askAll();
    }

    private void compare(String call, Check.Call real, Check.Call due) {
        String want = Check.outcome(due);
        check.same(run + " " + call, Check.outcome(real), want);
    }

    private void loadNight() {
        String text = randomText();
        int wholeCalls = (text.length() + 19) / 20;
        for (int i = 0; i < wholeCalls; i++) {
            int[] w = new int[5];
            for (int k = 0; k < 20; k++) {
                int sign = i * 20 + k < text.length() ? text.charAt(i * 20 + k) : ' ';
                w[k / 4] = w[k / 4] << 8 | sign;
            }
            compare("append", () -> night.append(w[0], w[1], w[2], w[3], w[4]),
                    () -> naive.append(w));
        }
        int length = random.nextInt(8) == 0 ? random.nextInt(text.length() + 25) - 2 : text.length();
        compare("load " + length + " of '" + text + "'", () -> night.load(length),
                () -> naive.load(length));
        compare("errorPosition behind '" + text + "'", night::errorPosition, naive::errorPosition);
    }

    private int from(int low, int high) {
        return low + random.nextInt(high - low + 1);
    }

    /** Mostly small enough that all plans can be listed; with bytes spoilt now and then. */
    private String randomText() {
        int slots = from(1, 6);
        int targets = from(0, slots > 4 ? 3 : 6);
        if (random.nextInt(6) == 0) {
            slots = from(7, 12);
            targets = from(0, 2);
        }
        StringBuilder text = new StringBuilder("night " + slots + ";");
        int moonAt = from(-1, targets);
        int skyAt = from(-1, targets);
        for (int i = 0; i <= targets; i++) {
            if (moonAt == i) {
                text.append("moon " + from(0, 90) + " " + from(0, 3) + " " + from(-10, 25) + " "
                        + from(0, 359) + " " + from(0, 359) + " " + from(0, 100) + ";");
            }
            if (skyAt == i) {
                text.append("sky " + percent() + " " + percent() + " " + percent() + ";");
            }
            if (i < targets) {
                text.append(target(slots));
            }
        }
        if (random.nextInt(4) == 0) {
            spoil(text);
        }
        return text.length() > 500 ? text.substring(0, 500) : text.toString();
    }

    private int percent() {
        return random.nextInt(3) == 0 ? 100 * random.nextInt(2) : from(0, 100);
    }

    private String target(int slots) {
        int teams = random.nextInt(4);
        int curve = random.nextInt(3) == 0 ? 0 : from(0, 8);
        int value = random.nextInt(2) == 0 ? from(1, 5) : from(1, 1000);
        return "target " + from(0, teams) + " " + from(20, 90) + " " + curve + " "
                + from(-2, slots + 1) + " " + from(0, 50) + " " + from(0, 359) + " "
                + from(0, 180) + " " + from(1, 3) + " " + value + ";";
    }

    private void spoil(StringBuilder text) {
        String signs = " ;-0129anmz\t\0\u00ff";
        for (int k = from(1, 2); k > 0; k--) {
            int at = random.nextInt(text.length());
            char sign = signs.charAt(random.nextInt(signs.length()));
            switch (random.nextInt(3)) {
                case 0 -> text.setCharAt(at, sign);
                case 1 -> text.insert(at, sign);
                default -> text.deleteCharAt(at);
            }
        }
    }

    private int target() {
        return random.nextInt(12) == 0 ? odd() : random.nextInt(6);
    }

    private int slot() {
        return random.nextInt(12) == 0 ? odd() : random.nextInt(7);
    }

    private int odd() {
        return ODD_NUMBERS[random.nextInt(ODD_NUMBERS.length)];
    }

    private void change() {
        int target = target();
        int team = random.nextInt(12) == 0 ? odd() : random.nextInt(4);
        boolean clear = random.nextInt(3) > 0;
        switch (random.nextInt(16)) {
            case 0, 1, 2, 3, 4 ->
                compare("look " + clear, () -> night.look(clear), () -> naive.look(clear));
            case 5, 6, 7, 8, 9 ->
                compare("expose " + target, () -> night.expose(target), () -> naive.expose(target));
            case 10, 11 -> compare("pass", night::pass, naive::pass);
            case 12 -> compare("waive " + team, () -> night.waive(team), () -> naive.waive(team));
            case 13 -> compare("restart", () -> {
                night.restart();
                return 0;
            }, naive::restart);
            default -> compare("undo", night::undo, naive::undo);
        }
    }

    private void ask() {
        ask(random.nextInt(31));
    }

    private void askAll() {
        for (int question = 0; question < 31; question++) {
            ask(question);
        }
    }

    private void ask(int question) {
        int t = target();
        int s = slot();
        int w = random.nextInt(12) == 0 ? odd() : random.nextInt(8);
        boolean b = random.nextBoolean();
        String with = " with " + t + ", " + s + ", " + w;
        switch (question) {
            case 0 -> compare("count" + with, () -> night.count(w), () -> naive.count(w));
            case 1 -> compare("height" + with, () -> night.height(t, s), () -> naive.height(t, s));
            case 2 -> compare("moonHeight" + with, () -> night.moonHeight(s), () -> naive.moonHeight(s));
            case 3 -> compare("moonDistance" + with, () -> night.moonDistance(t, s),
                    () -> naive.moonDistance(t, s));
            case 4 -> compare("window" + with, () -> night.window(t), () -> naive.window(t));
            case 5 -> compare("observable" + with, () -> night.observable(s), () -> naive.observable(s));
            case 6 -> compare("highestSlot" + with, () -> night.highestSlot(t),
                    () -> naive.highestSlot(t));
            case 7 -> compare("latestStart" + with, () -> night.latestStart(t),
                    () -> naive.latestStart(t));
            case 8 -> compare("clearOdds" + with, () -> night.clearOdds(s), () -> naive.clearOdds(s));
            case 9 -> compare("clearRun" + with, () -> night.clearRun(w, s), () -> naive.clearRun(w, s));
            case 10 -> compare("inTurn", night::inTurn, naive::inTurn);
            case 11 -> compare("turnsOf" + with, () -> night.turnsOf(t), () -> naive.turnsOf(t));
            case 12 -> compare("exposures" + with, () -> night.exposures(t), () -> naive.exposures(t));
            case 13 -> compare("past" + with, () -> night.past(s, w / 3), () -> naive.past(s, w / 3));
            case 14 -> compare("errorPosition", night::errorPosition, naive::errorPosition);
            default -> askAhead(question, t, s, b);
        }
    }

    private void askAhead(int question, int t, int s, boolean b) {
        String with = " with " + t + ", " + s + ", " + b;
        switch (question) {
            case 15 -> compare("planValue", night::planValue, naive::planValue);
            case 16 -> compare("planned" + with, () -> night.planned(s), () -> naive.planned(s));
            case 17 -> compare("planValueWith" + with, () -> night.planValueWith(s, t),
                    () -> naive.planValueWith(s, t));
            case 18 -> compare("planCount", night::planCount, naive::planCount);
            case 19 -> compare("worth" + with, () -> night.worth(t), () -> naive.worth(t));
            case 20 -> compare("priceOfTurns", night::priceOfTurns, naive::priceOfTurns);
            case 21 -> compare("mostExposures" + with, () -> night.mostExposures(b),
                    () -> naive.mostExposures(b));
            case 22 -> compare("greedyValue", night::greedyValue, naive::greedyValue);
            case 23 -> compare("meanValue", night::meanValue, naive::meanValue);
            case 24 -> compare("meanValueOf" + with, () -> night.meanValueOf(t),
                    () -> naive.meanValueOf(t));
            case 25 -> compare("decision", night::decision, naive::decision);
            case 26 -> compare("meanExposures" + with, () -> night.meanExposures(t),
                    () -> naive.meanExposures(t));
            case 27 -> compare("finishOdds" + with, () -> night.finishOdds(t),
                    () -> naive.finishOdds(t));
            case 28 -> compare("greedyMean", night::greedyMean, naive::greedyMean);
            case 29 -> compare("worthOfClear", night::worthOfClear, naive::worthOfClear);
            default -> compare("planValue", night::planValue, naive::planValue);
        }
    }
}
