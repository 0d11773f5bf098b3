import java.util.Random;

/** Random nights of many slots and targets, each answer about what is ahead compared with MemoNight. */
public final class BigRunsTest {
    private static final int RUNS = 60;

    private final Check check;
    private final Random random;
    private final int slots;
    private final int targets;
    private final MemoNight memo;
    private final String run;
    private TelescopeNight night;

    private BigRunsTest(Check check, int seed) {
        this.check = check;
        random = new Random(seed);
        slots = from(7, 12);
        targets = from(3, 6);
        memo = new MemoNight(slots, targets);
        run = "run " + seed;
    }

    public static void main(String[] args) {
        Check check = new Check("BigRunsTest");
        for (int seed = 0; seed < RUNS && !check.hasManyFaults(); seed++) {
            new BigRunsTest(check, seed).goThroughTheNight();
        }
        check.end();
    }

    private int from(int low, int high) {
        return low + random.nextInt(high - low + 1);
    }

    private void goThroughTheNight() {
        night = Check.nightOf(text());
        for (int slot = 0; slot < slots; slot++) {
            memo.seen[slot] = night.observable(slot);
            memo.odds[slot] = night.clearOdds(slot);
        }
        askAhead();
        for (int slot = 0; slot < slots; slot++) {
            goOn();
            if (slot > slots / 3) {
                askAhead();
            }
        }
    }

    private String text() {
        int[] p = memo.percents;
        for (int i = 0; i < p.length; i++) {
            p[i] = random.nextInt(4) == 0 ? 100 * random.nextInt(2) : from(0, 100);
        }
        StringBuilder text = new StringBuilder("night " + slots + ";sky " + p[0] + " " + p[1] + " " + p[2] + ";");
        int lastTeam = from(0, 3);
        int greatest = random.nextBoolean() ? 4 : 1000;
        for (int target = 0; target < targets; target++) {
            memo.teams[target] = from(0, lastTeam);
            memo.wanted[target] = from(1, 3);
            memo.values[target] = from(1, greatest);
            text.append("target " + memo.teams[target] + " 90 " + from(0, 4) + " " + from(-1, slots) + " "
                    + from(0, 60) + " 0 0 " + memo.wanted[target] + " " + memo.values[target] + ";");
        }
        return text.toString();
    }

    /** Lets one slot pass in some way. */
    private void goOn() {
        if (random.nextInt(6) == 0) {
            waive(from(0, 3));
        }
        int target = -1;
        if (random.nextInt(4) > 0) {
            boolean clear = random.nextInt(3) > 0;
            memo.look(clear);
            check.is(run + " look", memo.possibleNow(), () -> night.look(clear));
            askAboutNow();
            target = choice(memo.possibleNow());
        }
        if (target < 0) {
            night.pass();
        } else {
            night.expose(target);
        }
        memo.moveOn(target);
    }

    private void waive(int team) {
        boolean has = false;
        for (int other : memo.teams) {
            has |= other == team;
        }
        if (has && (memo.waived >> team & 1) == 0) {
            memo.waived |= 1 << team;
            night.waive(team);
        }
    }

    private int choice(int possible) {
        int target = random.nextInt(targets);
        if ((possible >> target & 1) == 1) {
            return target;
        }
        return possible == 0 ? -1 : Integer.numberOfTrailingZeros(possible);
    }

    private void askAboutNow() {
        check.is(run + " 34 decision", memo.decision(), night::decision);
        check.is(run + " 38 worthOfClear", memo.worthOfClear(), night::worthOfClear);
        check.is(run + " 32 meanValue", memo.meanValue(), night::meanValue);
        check.is(run + " 24 planValue", memo.planValue(), night::planValue);
        check.is(run + " 31 greedyValue", memo.greedyValue(), night::greedyValue);
        for (int target = 0; target < targets; target++) {
            int t = target;
            if ((memo.possibleNow() >> t & 1) == 1) {
                check.is(run + " 33 meanValueOf " + t, memo.meanValueOf(t), () -> night.meanValueOf(t));
            } else {
                check.refuses(run + " 33 meanValueOf " + t, IllegalStateException.class,
                        () -> night.meanValueOf(t));
            }
        }
    }

    private void askAhead() {
        check.is(run + " 24 planValue", memo.planValue(), night::planValue);
        check.is(run + " 27 planCount", memo.planCount(), night::planCount);
        check.is(run + " 29 priceOfTurns", memo.priceOfTurns(), night::priceOfTurns);
        check.is(run + " 30 mostExposures", memo.mostExposures(true), () -> night.mostExposures(true));
        check.is(run + " 30 mostExposures", memo.mostExposures(false), () -> night.mostExposures(false));
        check.is(run + " 31 greedyValue", memo.greedyValue(), night::greedyValue);
        check.is(run + " 32 meanValue", memo.meanValue(), night::meanValue);
        check.is(run + " 37 greedyMean", memo.gainedNow('g', 0), night::greedyMean);
        for (int target = 0; target < targets; target++) {
            int t = target;
            check.is(run + " 28 worth " + t, memo.worth(t), () -> night.worth(t));
            check.is(run + " 35 meanExposures " + t, memo.gainedNow('n', t), () -> night.meanExposures(t));
            check.is(run + " 36 finishOdds " + t, memo.gainedNow('f', t), () -> night.finishOdds(t));
        }
        for (int slot = memo.present; slot < slots; slot++) {
            askAboutSlot(slot, random.nextInt(targets));
        }
    }

    private void askAboutSlot(int slot, int target) {
        check.is(run + " 25 planned " + slot, memo.planned(slot), () -> night.planned(slot));
        long due = memo.planValueWith(slot, target);
        String what = run + " 26 planValueWith " + slot + ", " + target;
        if (due == MemoNight.NO_PLAN) {
            check.refuses(what, java.util.NoSuchElementException.class, () -> night.planValueWith(slot, target));
        } else {
            check.is(what, due, () -> night.planValueWith(slot, target));
        }
    }
}
