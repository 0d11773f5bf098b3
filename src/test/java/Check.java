import java.util.ArrayList;
import java.util.List;

/** What the tests share: comparing answers, and handing a text to a night. */
final class Check {
    /** A call whose answer, or whose exception, is looked at. */
    interface Call {
        long answer();
    }

    /** The answer of a call that throws stands for the exception's class. */
    static String outcome(Call call) {
        try {
            return Long.toString(call.answer());
        } catch (RuntimeException e) {
            return "throws." + e.getClass().getSimpleName();
        }
    }

    private final String name;
    private final List<String> faults = new ArrayList<>();
    private String subject = "";
    private int calls;

    Check(String name) {
        this.name = name;
    }

    /** What the answers that follow are about; a fault tells it. */
    void about(String newSubject) {
        subject = newSubject.isEmpty() ? "" : "[" + newSubject + "] ";
    }

    void same(String what, String got, String due) {
        calls++;
        if (!got.equals(due)) {
            faults.add(subject + what + " answered " + got + ", due is " + due);
        }
    }

    void is(String what, long due, Call call) {
        same(what, outcome(call), Long.toString(due));
    }

    void refuses(String what, Class<? extends RuntimeException> due, Call call) {
        same(what, outcome(call), "throws." + due.getSimpleName());
    }

    int calls() {
        return calls;
    }

    boolean hasManyFaults() {
        return faults.size() > 20;
    }

    void end() {
        for (String fault : faults) {
            System.out.println(name + ": " + fault);
        }
        System.out.println(name + ": " + calls + " answers looked at, " + faults.size() + " wrong");
        if (!faults.isEmpty() || calls == 0) {
            System.exit(1);
        }
    }

    /** Fills the buffer with a text, padded with spaces to whole calls of append. */
    static void fill(TelescopeNight night, String text) {
        for (int at = 0; at < text.length(); at += 20) {
            int[] words = new int[5];
            for (int i = 0; i < 20; i++) {
                int sign = at + i < text.length() ? text.charAt(at + i) : ' ';
                words[i / 4] = words[i / 4] << 8 | sign;
            }
            night.append(words[0], words[1], words[2], words[3], words[4]);
        }
    }

    static int load(TelescopeNight night, String text) {
        fill(night, text);
        return night.load(text.length());
    }

    /** A new night with a text that must have no error. */
    static TelescopeNight nightOf(String text) {
        TelescopeNight night = new TelescopeNight();
        if (load(night, text) < 0) {
            throw new AssertionError("the test's own text has an error: " + text);
        }
        return night;
    }
}
