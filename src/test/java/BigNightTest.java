import java.lang.reflect.Array;
import java.lang.reflect.Field;
import java.lang.reflect.Modifier;
import java.math.BigInteger;
import java.util.Collections;
import java.util.IdentityHashMap;
import java.util.Set;

/** Nights of 12 slots and 6 targets: too big to list all plans, but known by other ways. */
public final class BigNightTest {
    private static final int SLOTS = 12;
    private static final int TARGETS = 6;

    private final Check check = new Check("BigNightTest");

    public static void main(String[] args) {
        BigNightTest test = new BigNightTest();
        test.countPlansOfEquals();
        test.countAllPlans();
        test.alwaysClear();
        test.plansAgree("0 0 0 0 0 0");
        test.plansAgree("0 1 0 1 2 3");
        test.fourTeams();
        test.staysSmall();
        test.check.end();
    }

    private static String target(int team, int wanted, int value) {
        return "target " + team + " 80 0 0 0 0 0 " + wanted + " " + value + ";";
    }

    private static BigInteger factorial(int n) {
        return n < 2 ? BigInteger.ONE : factorial(n - 1).multiply(BigInteger.valueOf(n));
    }

    /** In how many ways a number of exposures can stand in a row, each target at most 3 times. */
    private static long rows(int exposures, int targets) {
        if (targets == 0) {
            return exposures == 0 ? 1 : 0;
        }
        long sum = 0;
        for (int here = 0; here <= Math.min(3, exposures); here++) {
            sum += choose(exposures, here) * rows(exposures - here, targets - 1);
        }
        return sum;
    }

    private static long choose(int n, int k) {
        return factorial(n).divide(factorial(k)).divide(factorial(n - k)).longValueExact();
    }

    private void countPlansOfEquals() {
        TelescopeNight x = Check.nightOf("night 12;sky 50 50 50;" + target(2, 3, 4).repeat(TARGETS));
        check.is("27 twelve equal slots", rows(SLOTS, TARGETS), x::planCount);
        check.is("24 twelve equal slots", 12L * 4 * 500000, x::planValue);
        for (int slot = 0; slot < SLOTS; slot++) {
            int s = slot;
            check.is("25 the first plan, slot " + s, s / 3, () -> x.planned(s));
        }
        check.is("30 twelve", SLOTS, () -> x.mostExposures(true));
        check.is("32 independent slots", 12L * 4 * 500000, x::meanValue);
        check.is("35 all alike", 6L * 1000000, () -> sumOfMeans(x));
    }

    private static long sumOfMeans(TelescopeNight x) {
        long sum = 0;
        for (int target = 0; target < TARGETS; target++) {
            sum += x.meanExposures(target);
        }
        // Each mean is rounded down on its way; only their sum is known.
        return (sum + 500) / 1000 * 1000;
    }

    private void countAllPlans() {
        TelescopeNight x = Check.nightOf("night 12;sky 0 0 0;" + target(1, 3, 1000).repeat(TARGETS));
        long all = 0;
        for (int exposures = 0; exposures <= SLOTS; exposures++) {
            all += choose(SLOTS, exposures) * rows(exposures, TARGETS);
        }
        long due = all;
        check.is("27 plans of value 0", due, x::planCount);
        check.is("24 value 0", 0, x::planValue);
        check.is("32 no hope", 0, x::meanValue);
        check.is("38 but if it were clear", 1000L * 1000000, x::worthOfClear);
    }

    private void alwaysClear() {
        TelescopeNight x = Check.nightOf("night 12;sky 100 100 0;target 0 80 2 3 40 0 0 3 17;"
                + "target 1 80 3 8 40 0 0 2 900;target 0 80 1 1 50 0 0 3 21;"
                + "target 2 80 4 6 50 0 0 3 333;target 1 80 1 11 20 0 0 3 1000;");
        check.same("32 the mean of a clear night is its plan", "" + x.meanValue(), "" + x.planValue());
        check.same("37 the greedy mean is the greedy plan", "" + x.greedyMean(), "" + x.greedyValue());
        long exposures = 0;
        for (int target = 0; target < 5; target++) {
            exposures += x.meanExposures(target) / 1000000;
        }
        long points = goByDecisions(x);
        check.same("34 the decisions reach it", "" + points * 1000000, "" + valueAtFirst(x));
        check.same("35 they make these exposures", "" + exposures, "" + exposuresAtEnd(x));
    }

    private static long goByDecisions(TelescopeNight x) {
        x.restart();
        for (int slot = 0; slot < SLOTS; slot++) {
            x.look(true);
            int target = x.decision();
            if (target == TelescopeNight.NONE) {
                x.pass();
            } else {
                x.expose(target);
            }
        }
        return x.count(4);
    }

    private static long valueAtFirst(TelescopeNight x) {
        x.restart();
        long value = x.planValue();
        x.undo();
        return value;
    }

    private static long exposuresAtEnd(TelescopeNight x) {
        return x.count(6);
    }

    /** What the plan gives, its value, and the best plans with each target must fit together. */
    private void plansAgree(String teams) {
        StringBuilder text = new StringBuilder("night 12;sky 40 70 35;");
        for (int target = 0; target < TARGETS; target++) {
            int team = teams.charAt(2 * target) - '0';
            text.append("target " + team + " 85 2 " + 2 * target + " 30 0 0 3 " + (90 + 7 * target) + ";");
        }
        TelescopeNight x = Check.nightOf(text.toString());
        check.is(teams + " 27 one best plan", 1, x::planCount);
        for (int slot = 0; slot < SLOTS; slot++) {
            int now = slot;
            // There is one best plan, so a slot without a target in it has no plan as good.
            boolean asGood = bestWith(x, slot) == x.planValue();
            check.same(teams + " 26 slot " + slot, "" + asGood, "" + (x.planned(slot) >= 0));
            if (asGood) {
                check.is(teams + " 26 the planned target", x.planValue(),
                        () -> x.planValueWith(now, x.planned(now)));
            }
        }
        check.same(teams + " 25 the value of what is planned", "" + valueOfPlanned(x), "" + x.planValue());
        check.same(teams + " 29 turns cost", "" + (x.priceOfTurns() >= 0), "true");
        check.same(teams + " 31 greed is not better", "" + (x.greedyValue() <= x.planValue()), "true");
        check.same(teams + " 37 greed is not better", "" + (x.greedyMean() <= x.meanValue()), "true");
        walkThePlan(x, teams);
    }

    private static long bestWith(TelescopeNight x, int slot) {
        long best = -1;
        for (int target = 0; target < TARGETS; target++) {
            try {
                best = Math.max(best, x.planValueWith(slot, target));
            } catch (java.util.NoSuchElementException e) {
                continue;
            }
        }
        return best;
    }

    private static long valueOfPlanned(TelescopeNight x) {
        long sum = 0;
        for (int slot = 0; slot < SLOTS; slot++) {
            int target = x.planned(slot);
            sum += target < 0 ? 0 : (90 + 7L * target) * x.clearOdds(slot);
        }
        return sum;
    }

    /** The plan must be possible, one exposure behind the other, if the sky is clear. */
    private void walkThePlan(TelescopeNight x, String teams) {
        int[] plan = new int[SLOTS];
        for (int slot = 0; slot < SLOTS; slot++) {
            plan[slot] = x.planned(slot);
        }
        for (int slot = 0; slot < SLOTS; slot++) {
            x.look(true);
            int target = plan[slot];
            String got = Check.outcome(target < 0 ? x::pass : () -> x.expose(target));
            check.same(teams + " 25 slot " + slot + " can be done", "" + !got.startsWith("throws"), "true");
        }
    }

    private void fourTeams() {
        TelescopeNight x = Check.nightOf("night 12;sky 50 50 50;" + target(0, 3, 4) + target(1, 3, 3)
                + target(2, 3, 2) + target(3, 3, 1) + target(3, 3, 1));
        check.is("30 four teams in turn", 12, () -> x.mostExposures(true));
        check.is("24 four teams in turn", 3L * (4 + 3 + 2 + 1) * 500000, x::planValue);
        // Without turns the twelve are three of the values 4, 3, 2 and 1 as well.
        check.is("29 turns cost nothing", 0, x::priceOfTurns);
        // Each of three rounds is an order of four teams; team 3 has two targets, three times each.
        check.is("27 orders", 24L * 24 * 24 * 8, x::planCount);
    }

    /** All that one object holds behind its dearest calls; a run has room for 7.3 million. */
    private void staysSmall() {
        TelescopeNight x = Check.nightOf("night 12;" + target(2, 3, 4).repeat(TARGETS));
        askAll(x);
        long first = held(x, Collections.newSetFromMap(new IdentityHashMap<>()));
        for (int i = 0; i < 60; i++) {
            x.restart();
            askAll(x);
            Check.load(x, "night 12;" + target(2, 3, 4).repeat(i % 7));
        }
        long later = held(x, Collections.newSetFromMap(new IdentityHashMap<>()));
        check.same("room at first", "" + (first < 60000), "true");
        check.same("no more room later", "" + later, "" + first);
    }

    private static void askAll(TelescopeNight x) {
        x.planCount();
        x.priceOfTurns();
        x.mostExposures(false);
        x.meanValue();
        x.greedyMean();
        for (int target = 0; target < x.count(1); target++) {
            x.worth(target);
            x.finishOdds(target);
            x.meanExposures(target);
        }
    }

    private static long held(Object object, Set<Object> seen) {
        if (object == null || !seen.add(object)) {
            return 0;
        }
        long sum = 1;
        if (object.getClass().isArray()) {
            for (int i = 0; i < Array.getLength(object); i++) {
                sum += 1 + (object instanceof Object[] many ? held(many[i], seen) : 0);
            }
            return sum;
        }
        for (Field field : object.getClass().getDeclaredFields()) {
            if (!Modifier.isStatic(field.getModifiers())) {
                sum += 1 + heldBy(field, object, seen);
            }
        }
        return sum;
    }

    private static long heldBy(Field field, Object object, Set<Object> seen) {
        if (field.getType().isPrimitive()) {
            return 0;
        }
        try {
            field.setAccessible(true);
            return held(field.get(object), seen);
        } catch (IllegalAccessException e) {
            throw new AssertionError(e);
        }
    }
}
