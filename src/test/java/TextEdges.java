import java.util.ArrayList;
import java.util.List;
import java.util.function.Supplier;

/** The boundary cases of texts: what section 7 says of them, and append, load and errorPosition. */
final class TextEdges {
    private static final String TARGET = "target 1 1 1 1 1 1 1 1 1;";
    private static final String SIX = "night 1;" + TARGET.repeat(6);

    private final Edges edges;
    private final Check check;

    TextEdges(Edges edges) {
        this.edges = edges;
        this.check = edges.check;
    }

    void run() {
        grammar();
        ranges();
        errors();
        append();
        load();
        errorPosition();
    }

    private void grammar() {
        edges.sentence("section 7", "A night is read from a text of at most 500 bytes:", this::longTexts);
        edges.sentence("section 7", "text = \"night\" N \";\" { \"moon\" N N S N N N \";\" | "
                + "\"sky\" N N N \";\" | \"target\" N N N S N N N N N \";\" } .", this::tokens);
        edges.sentence("section 7", "Braces mean any number of repetitions", this::repetitions);
        edges.sentence("section 7", "\"moon\" and \"sky\" may stand once each.", this::onceEach);
        edges.sentence("section 7", "A word is the longest possible sequence of the letters a to z",
                this::words);
        edges.sentence("section 7", "N the longest possible sequence of digits", this::numbers);
        edges.sentence("section 7", "S is N with or without a minus sign directly in front of it (a minus "
                + "sign that is not directly followed by a digit is not allowed).", this::minusSigns);
        edges.sentence("section 7", "Spaces (byte 32) may stand in front of every token and at the end of "
                + "the text.", this::spaces);
    }

    private void ranges() {
        edges.sentence("section 7", "of the night the slots", this::numbersOfTheNight);
        edges.sentence("section 7", "of the moon the peak, the curve, the transit, the azimuth at slot 0 (0 "
                + "to 359), the speed (0 to 359) and the brightness (0 to 100)", this::numbersOfTheMoon);
        edges.sentence("section 7", "of the sky the three percentages (0 to 100)", this::numbersOfTheSky);
        edges.sentence("section 7", "of a target the team (0 to 3), the peak, the curve, the transit, the "
                + "least height, the azimuth at slot 0 (0 to 359), the moon distance, the wanted exposures "
                + "and the value.", this::numbersOfATarget);
    }

    private void errors() {
        edges.sentence("section 7", "Reading stops at the first error.", this::firstErrors);
        edges.sentence("section 7", "If several error codes fit the same position, the first one in this "
                + "list is reported:", this::severalCodes);
        edges.sentence("section 7", "SYNTAX_ERROR: a byte or token that is not allowed here (at its first "
                + "byte)", this::notAllowed);
        edges.sentence("section 7", "or an unexpected end of the text (at the length of the text)",
                this::unexpectedEnds);
        edges.sentence("section 7", "a second \"moon\" or \"sky\" is not allowed.", this::secondOnes);
        edges.sentence("section 7", "VALUE_ERROR: a number that is out of its range (at its first byte).",
                this::outOfRange);
        edges.sentence("section 7", "TOO_MANY: the word of a seventh target.", this::sevenTargets);
    }

    private void append() {
        edges.sentence("promise 2", "the four bytes of each argument in order, the most significant byte "
                + "first.", this::bytesInOrder);
        edges.sentence("promise 2", "Returns the new length of the buffer.", this::lengths);
        edges.sentence("promise 2", "Throws `IllegalStateException` if the length would exceed 500",
                this::fullBuffer);
    }

    private void load() {
        edges.sentence("promise 3", "Reads the first bytes of the text buffer as a night.",
                this::firstBytes);
        edges.sentence("promise 3", "If the text has no error, its night replaces the present one and "
                + "begins at slot 0.", this::replaces);
        edges.sentence("promise 3", "In case of an error the present night stays.", this::stays);
        edges.sentence("promise 3", "The buffer is empty afterwards in both cases.", this::emptied);
        edges.sentence("promise 3", "number of bytes, 0 to the length of the buffer", this::goodLengths);
        edges.sentence("promise 3", "Returns the number of targets, or the error code.", this::answers);
        edges.sentence("promise 3", "Throws `IllegalArgumentException` if length is out of range",
                this::badLengths);
    }

    private void errorPosition() {
        edges.sentence("promise 4", "Returns the position of the error that the latest call of load found.",
                this::latestError);
        edges.sentence("promise 4", "NONE if it found no error or if there was no call that did not throw.",
                this::noError);
    }

    // ---- the grammar

    private static String padded(String text, int length) {
        return text + " ".repeat(length - text.length());
    }

    private void longTexts() {
        String long500 = "night 1" + " ".repeat(492) + ";";
        edges.text(long500, 0, -1);
        edges.text(padded("night 1;", 500), 0, -1);
        edges.text(padded("night 1", 500), -2, 500);
        edges.text("night 1;" + " ".repeat(491) + "x", -2, 499);
        edges.text(padded(SIX, 500), 6, -1);
        edges.text("night " + "0".repeat(492) + "1;", 0, -1);
        edges.text("night " + "0".repeat(491) + "13;", -3, 6);
        edges.text("n".repeat(500), -2, 0);
        edges.text("9".repeat(500), -2, 0);
        edges.text("night 1;" + ";".repeat(492), -2, 8);
    }

    /** A text of all parts; its numbers are all alike, so that one more or less shifts no value. */
    private static List<String> wholeText() {
        List<String> tokens = new ArrayList<>();
        addPart(tokens, "night", 1);
        addPart(tokens, "moon", 6);
        addPart(tokens, "sky", 3);
        addPart(tokens, "target", 9);
        return tokens;
    }

    private static void addPart(List<String> tokens, String word, int numbers) {
        tokens.add(word);
        for (int i = 0; i < numbers; i++) {
            tokens.add("1");
        }
        tokens.add(";");
    }

    private static int positionOf(List<String> tokens, int index) {
        int position = 0;
        for (int i = 0; i < index; i++) {
            position += tokens.get(i).length() + 1;
        }
        // Behind the last token there is no space: the end of the text.
        return index < tokens.size() ? position : position - 1;
    }

    private static int nextSemicolon(List<String> tokens, int from) {
        int at = from;
        while (!tokens.get(at).equals(";")) {
            at++;
        }
        return at;
    }

    private void tokens() {
        List<String> whole = wholeText();
        edges.text(String.join(" ", whole), 1, -1);
        for (int i = 0; i < whole.size(); i++) {
            boolean isNumber = whole.get(i).equals("1");
            List<String> less = new ArrayList<>(whole);
            less.remove(i);
            int missing = isNumber ? nextSemicolon(less, i) : i;
            edges.text(String.join(" ", less), -2, positionOf(less, missing));
            List<String> more = new ArrayList<>(whole);
            more.add(i, whole.get(i));
            int extra = isNumber ? nextSemicolon(more, i) - 1 : i + 1;
            edges.text(String.join(" ", more), -2, positionOf(more, extra));
        }
    }

    private void repetitions() {
        edges.text("night 1;", 0, -1);
        edges.text("night 1;sky 1 1 1;", 0, -1);
        edges.text("night 1;moon 1 1 1 1 1 1;", 0, -1);
        for (int targets = 1; targets <= 6; targets++) {
            edges.text("night 1;" + TARGET.repeat(targets), targets, -1);
        }
        edges.text(SIX + "moon 1 1 1 1 1 1;sky 1 1 1;", 6, -1);
        edges.text("night 1;" + TARGET + "sky 1 1 1;" + TARGET + "moon 1 1 1 1 1 1;" + TARGET, 3, -1);
        edges.text("night 1;night 1;", -2, 8);
    }

    private void onceEach() {
        edges.text("night 1;moon 1 1 1 1 1 1;sky 1 1 1;", 0, -1);
        edges.text("night 1;sky 1 1 1;moon 1 1 1 1 1 1;", 0, -1);
        edges.is("a moon in each of two texts", 0, () -> {
            TelescopeNight x = Check.nightOf("night 1;moon 1 1 1 1 1 1;sky 1 1 1;");
            Check.fill(x, "night 1;moon 1 1 1 1 1 1;sky 1 1 1;");
            return x;
        }, x -> x.load(35));
        edges.is("a moon behind a text with an error in its moon", 0, () -> {
            TelescopeNight x = new TelescopeNight();
            Check.load(x, "night 1;sky 1 1 1;moon 1 1 1 1 1 x");
            Check.fill(x, "night 1;moon 1 1 1 1 1 1;sky 1 1 1;");
            return x;
        }, x -> x.load(35));
    }

    private void secondOnes() {
        edges.text("night 1;moon 1 1 1 1 1 1;moon 1 1 1 1 1 1;", -2, 25);
        edges.text("night 1;sky 1 1 1;sky 1 1 1;", -2, 18);
        edges.text("night 1;moon 1 1 1 1 1 1;sky 1 1 1;" + TARGET + " moon", -2, 61);
        edges.text("night 1;sky 1 1 1;moon 1 1 1 1 1 1;" + TARGET + " sky", -2, 61);
    }

    private void words() {
        for (String word : new String[] {"nigh", "nights", "anight", "nightnight", "nightz", "nighta",
            "xight", "nighx", "nixht",
            "Night", "NIGHT", "n", "sky", "x"}) {
            edges.text(word + " 1;", -2, 0);
        }
        for (String word : new String[] {"moo", "moons", "skyy", "sk", "targe", "targets", "skymoon", "xoon",
            "moox", "xky", "skx", "sxy", "xarget", "targex", "tarxet"}) {
            edges.text("night 1;" + word + " 1 1 1;", -2, 8);
        }
        // The neighbours of a and z are no letters, so the word ends in front of them.
        edges.text("night`1;", -2, 5);
        edges.text("night{1;", -2, 5);
        edges.text("nightA1;", -2, 5);
        edges.text("night1;sky1 1 1;moon1 1 1 1 1 1;target1 1 1 1 1 1 1 1 1;", 1, -1);
    }

    private void numbers() {
        edges.text("night 12;", 0, -1);
        edges.text("night 1 2;", -2, 8);
        edges.text("night 012;", 0, -1);
        edges.text("night 0000000000000000000000000000000000000012;", 0, -1);
        edges.text("night 120;", -3, 6);
        edges.text("night 1;sky 1 11;", -2, 16);
        // The neighbours of 0 and 9 are no digits.
        edges.text("night 1/;", -2, 7);
        edges.text("night 1:;", -2, 7);
        edges.text("night /;", -2, 6);
        edges.text("night :;", -2, 6);
        edges.text("night 9;", 0, -1);
        edges.text("night 1x;", -2, 7);
        edges.text("night 1moon 1 1 1 1 1 1;", -2, 7);
        edges.text("night 1.0;", -2, 7);
    }

    private void minusSigns() {
        edges.is("-3 is below 0", 81, Edges.at("night 1;moon 90 1 -3 0 0 0;", ""), x -> x.moonHeight(0));
        edges.is("-0 is 0", 90, Edges.at("night 1;moon 90 1 -0 0 0 0;", ""), x -> x.moonHeight(0));
        edges.is("-010 is -10", -10, Edges.at("night 1;moon 90 1 -010 0 0 0;", ""), x -> x.moonHeight(0));
        edges.is("-1 of a target", 89, Edges.at("night 1;target 0 90 1 -1 0 0 0 1 1;", ""),
                x -> x.height(0, 0));
        edges.text("night 1;moon 1 1-1 1 1 1;", 0, -1);
        edges.text("night 1;moon 1 1 - 1 1 1 1;", -2, 17);
        edges.text("night 1;moon 1 1 --1 1 1 1;", -2, 17);
        edges.text("night 1;moon 1 1 -;", -2, 17);
        edges.text("night 1;moon 1 1 -x;", -2, 17);
        edges.text("night 1;moon 1 1 -/1;", -2, 17);
        edges.text("night 1;moon 1 1 -:1;", -2, 17);
        edges.text("night 1;moon 1 1 +1 1 1 1;", -2, 17);
        edges.text("night 1;moon 1 1 1- 1 1 1;", -2, 18);
        edges.text("night 1;target 1 1 1 - 1 1 1 1 1 1;", -2, 21);
        // A minus sign as the last byte is itself what is not allowed.
        edges.text("night 1;moon 1 1 -", -2, 17);
        edges.text("night 1;target 1 1 1 -", -2, 21);
        edges.text(" ".repeat(482) + "night 1;moon 1 1 -", -2, 499);
        noMinusSign("moon", 6, 2);
        noMinusSign("sky", 3, -1);
        noMinusSign("target", 9, 3);
        edges.text("night -1;", -2, 6);
        edges.text("night -0;", -2, 6);
    }

    /** All numbers but one of a part have no minus sign, not even in front of a 0. */
    private void noMinusSign(String word, int numbers, int signed) {
        for (int at = 0; at < numbers; at++) {
            String before = "night 1;" + word + " " + "1 ".repeat(at);
            String text = before + "-0" + " 1".repeat(numbers - at - 1) + ";";
            boolean good = at == signed;
            edges.text(text, good ? word.equals("target") ? 1 : 0 : -2, good ? -1 : before.length());
        }
    }

    private void spaces() {
        List<String> whole = wholeText();
        edges.text("   " + String.join("   ", whole) + "   ", 1, -1);
        for (int i = 0; i < whole.size(); i++) {
            List<String> wide = new ArrayList<>(whole);
            wide.set(i, "  " + whole.get(i));
            edges.text(String.join(" ", wide), 1, -1);
        }
        edges.text("night1;sky 1 1 1;", 0, -1);
        edges.text("ni ght 1;", -2, 0);
        edges.text("night 1;mo on 1 1 1 1 1 1;", -2, 8);
        // No other byte stands for a space.
        for (char other : new char[] {0, 9, 10, 13, 31, 33, 127, 128, 160, 255}) {
            edges.text("night" + other + "1;", -2, 5);
            edges.text(other + "night 1;", -2, 0);
            edges.text("night 1;" + other, -2, 8);
            edges.text("night 1" + other + ";", -2, 7);
        }
    }

    // ---- the numbers

    private void numbersOfTheNight() {
        for (int slots = 1; slots <= 12; slots++) {
            edges.is("slots", slots, Edges.at("night " + slots + ";", ""), x -> x.count(0));
        }
        edges.range("night ", 1, 12, ";");
    }

    private void numbersOfTheMoon() {
        edges.range("night 1;moon ", 0, 90, " 1 1 1 1 1;");
        edges.range("night 1;moon 1 ", 0, 30, " 1 1 1 1;");
        edges.range("night 1;moon 1 1 ", -10, 25, " 1 1 1;");
        edges.range("night 1;moon 1 1 1 ", 0, 359, " 1 1;");
        edges.range("night 1;moon 1 1 1 1 ", 0, 359, " 1;");
        edges.range("night 1;moon 1 1 1 1 1 ", 0, 100, ";");
        // In slot 1 the moon is at 80 - 2 * 16, and its azimuth is 30 + 50, 65 away from 15.
        Supplier<TelescopeNight> x = Edges.at("night 2;moon 80 2 -3 30 50 40;"
                + "target 1 70 0 0 0 0 162 1 1;target 1 70 0 0 0 0 165 1 1;", "");
        edges.is("the peak, the curve and the transit", 80 - 2 * 16, x, y -> y.moonHeight(1));
        edges.is("the azimuth", 30, x, y -> y.moonDistance(0, 0));
        edges.is("the speed", 65, x, y -> y.moonDistance(0, 1));
        // 40 percent of 162 are 64.8, and of 165 they are 66.
        edges.is("the brightness", 1, x, y -> y.observable(1));
    }

    private void numbersOfTheSky() {
        edges.range("night 1;sky ", 0, 100, " 1 1;");
        edges.range("night 1;sky 1 ", 0, 100, " 1;");
        edges.range("night 1;sky 1 1 ", 0, 100, ";");
        Supplier<TelescopeNight> x = Edges.at("night 2;sky 10 20 70;", "");
        edges.is("the first one", 100000, x, y -> y.clearOdds(0));
        edges.is("the second one", 20000, x, y -> y.clearRun(0, 1));
        edges.is("the third one", 20000 + 630000, x, y -> y.clearOdds(1));
    }

    private void numbersOfATarget() {
        edges.range("night 1;target ", 0, 3, " 1 1 1 1 1 1 1 1;");
        edges.range("night 1;target 1 ", 0, 90, " 1 1 1 1 1 1 1;");
        edges.range("night 1;target 1 1 ", 0, 30, " 1 1 1 1 1 1;");
        edges.range("night 1;target 1 1 1 ", -10, 25, " 1 1 1 1 1;");
        edges.range("night 1;target 1 1 1 1 ", 0, 89, " 1 1 1 1;");
        edges.range("night 1;target 1 1 1 1 1 ", 0, 359, " 1 1 1;");
        edges.range("night 1;target 1 1 1 1 1 1 ", 0, 180, " 1 1;");
        edges.range("night 1;target 1 1 1 1 1 1 1 ", 1, 3, " 1;");
        edges.range("night 1;target 1 1 1 1 1 1 1 1 ", 1, 1000, ";");
        // The heights are 56, 74, 80 and 74, the distances 40, 25, 10 and 5.
        Supplier<TelescopeNight> x = Edges.at("night 4;moon 90 0 0 100 0 50;target 2 80 6 2 63 60 24 2 9;", "");
        edges.is("the team", 4, x, y -> y.count(2));
        edges.is("the peak", 80, x, y -> y.height(0, 2));
        edges.is("the curve and the transit", 80 - 6 * 4, x, y -> y.height(0, 0));
        edges.is("the azimuth", 40, x, y -> y.moonDistance(0, 0));
        // Too low in slot 0 for 63, and too near to the moon in the slots 2 and 3 for 24 * 0.5.
        edges.is("the least height and the moon distance", 2, x, y -> y.window(0));
        String always = "night 4;target 2 80 6 2 0 60 24 3 9;";
        edges.is("the wanted exposures", 3, Edges.at(always, ""), y -> y.mostExposures(true));
        edges.is("the value", 9, Edges.at(always, "clear"), y -> y.expose(0));
    }

    // ---- errors

    private void firstErrors() {
        edges.text("night 13;sky 101 1 1;", -3, 6);
        edges.text("night 1;sky 101 1 x;", -3, 12);
        edges.text("night 1;sky x 101 1;", -2, 12);
        edges.text("night 1;sky 1 1 101", -3, 16);
        edges.text("night 13", -3, 6);
        edges.text("night 13 14;", -3, 6);
        edges.text(SIX + "target 9 9 9 x", -4, SIX.length());
        edges.text(SIX + "sky 101 1 1;target", -3, SIX.length() + 4);
        edges.text("night 1;moon 1 1 26 1 1 1;moon", -3, 17);
    }

    private void severalCodes() {
        // A minus sign in front of a number that must not have one: the number is out of range, too.
        edges.text("night -1;", -2, 6);
        edges.text("night 1;sky -1 1 1;", -2, 12);
        edges.text("night 1;target -1 1 1 1 1 1 1 1 1;", -2, 15);
        // A number that is not allowed at all, and in no range.
        edges.text("night 1 13;", -2, 8);
        edges.text("night 1;sky 1 1 1 101;", -2, 18);
        // A seventh target's word that is no word of the grammar, or a second moon behind six.
        edges.text(SIX + "targets 1 1 1 1 1 1 1 1 1;", -2, SIX.length());
        edges.text("night 1;moon 1 1 1 1 1 1;" + TARGET.repeat(6) + "moon", -2, 25 + 6 * TARGET.length());
    }

    private void notAllowed() {
        edges.text("1;", -2, 0);
        edges.text(";", -2, 0);
        edges.text("-", -2, 0);
        edges.text("  ;", -2, 2);
        edges.text("moon 1 1 1 1 1 1;", -2, 0);
        edges.text("night ;", -2, 6);
        edges.text("night night 1;", -2, 6);
        edges.text("night 1,", -2, 7);
        edges.text("night 1  moon", -2, 9);
        edges.text("night 1;   1;", -2, 11);
        edges.text("night 1;;", -2, 8);
        edges.text("night 1;   moons 1 1 1 1 1 1;", -2, 11);
        edges.text("night 1;sky 1 1 ;", -2, 16);
        edges.text("night 1;sky 1 1 1 1;", -2, 18);
    }

    private void unexpectedEnds() {
        edges.text("", -2, 0);
        edges.text(" ", -2, 1);
        List<String> whole = wholeText();
        for (int i = 1; i < whole.size(); i++) {
            String text = String.join(" ", whole.subList(0, i));
            boolean good = text.endsWith(";");
            edges.text(text, good ? 0 : -2, good ? -1 : text.length());
            edges.text(text + "  ", good ? 0 : -2, good ? -1 : text.length() + 2);
            // The end of the text is the end of the full buffer.
            edges.text(padded(text, 500), good ? 0 : -2, good ? -1 : 500);
            edges.text(" ".repeat(500 - text.length()) + text, good ? 0 : -2, good ? -1 : 500);
        }
        // The text is as long as load is told, whatever stands behind it in the buffer.
        edges.is("the end is in front of the semicolon", 7, () -> {
            TelescopeNight x = new TelescopeNight();
            Check.fill(x, "night 1;");
            x.load(7);
            return x;
        }, x -> x.errorPosition());
        edges.is("the end is inside a number", 17, () -> {
            TelescopeNight x = new TelescopeNight();
            Check.fill(x, "night 1;sky 1 1 100;");
            x.load(17);
            return x;
        }, x -> x.errorPosition());
    }

    private void outOfRange() {
        edges.text("night 0;", -3, 6);
        edges.text("night   13;", -3, 8);
        edges.text("night 0013;", -3, 6);
        edges.text("night 1;moon 1 1 -11 1 1 1;", -3, 17);
        edges.text("night 1;moon 1 1 26 1 1 1;", -3, 17);
        edges.text("night 1;target 1 1 1 -11 1 1 1 1 1;", -3, 21);
        edges.text("night 1;target 1 1 1 1 1 1 1 0 1;", -3, 29);
        edges.text("night 1;target 1 1 1 1 1 1 1 1 0;", -3, 31);
        // Numbers that would be in range if they were cut to 32 or 64 bits.
        for (String great : new String[] {"4294967297", "2147483648", "2147483649", "8589934593",
            "18446744073709551617", "9223372036854775809", "340282366920938463463374607431768211457"}) {
            edges.text("night " + great + ";", -3, 6);
            edges.text("night 1;moon 1 1 " + great + " 1 1 1;", -3, 17);
            edges.text("night 1;moon 1 1 -" + great + " 1 1 1;", -3, 17);
        }
    }

    private void sevenTargets() {
        edges.text(SIX, 6, -1);
        edges.text(SIX + TARGET, -4, SIX.length());
        edges.text(SIX + "target", -4, SIX.length());
        edges.text(SIX + "   target;", -4, SIX.length() + 3);
        edges.text(SIX + "target1", -4, SIX.length());
        edges.is("six behind six", 6, () -> {
            TelescopeNight x = Check.nightOf(SIX);
            Check.fill(x, SIX);
            return x;
        }, x -> x.load(SIX.length()));
    }

    // ---- append

    private void bytesInOrder() {
        TelescopeNight x = new TelescopeNight();
        // "nigh" "t   " "  10" ";   " "    "
        x.append(0x6e696768, 0x74202020, 0x20203130, 0x3b202020, 0x20202020);
        check.is("a text of five arguments", 0, () -> x.load(20));
        check.is("its slots", 10, () -> x.count(0));
        for (int at = 0; at < 20; at++) {
            int[] words = {0x6e696768, 0x74202020, 0x20203130, 0x3b202020, 0x20202020};
            words[at / 4] |= 0x80 << 8 * (3 - at % 4);
            TelescopeNight y = new TelescopeNight();
            y.append(words[0], words[1], words[2], words[3], words[4]);
            check.is("byte " + at + " is above 127", -2, () -> y.load(20));
            // A letter that is none ends its word, but the word as a whole is what is wrong.
            check.is("position of byte " + at, at < 5 ? 0 : at, y::errorPosition);
        }
        for (int extreme : new int[] {-1, Edges.LEAST, Edges.MOST, 0}) {
            TelescopeNight y = new TelescopeNight();
            check.is("append " + extreme, 20, () -> y.append(extreme, extreme, extreme, extreme, extreme));
            check.is("load it", -2, () -> y.load(20));
            check.is("its first byte is wrong", 0, y::errorPosition);
        }
    }

    private void lengths() {
        TelescopeNight x = new TelescopeNight();
        for (int length = 20; length <= 500; length += 20) {
            check.is("append up to " + length, length, () -> Edges.append(x));
        }
        x.load(500);
        check.is("append behind load", 20, () -> Edges.append(x));
    }

    /** An object whose buffer holds so many calls of append; the first one brings a text. */
    private static Supplier<TelescopeNight> filled(int calls) {
        return () -> {
            TelescopeNight x = Check.nightOf(Edges.PAIR);
            x.look(true);
            Check.fill(x, "night 5;");
            for (int i = 1; i < calls; i++) {
                Edges.append(x);
            }
            return x;
        };
    }

    private void fullBuffer() {
        edges.is("the last call that fits", 500, filled(24), Edges::append);
        edges.refuses("one more", Edges.STATE, filled(25), Edges::append);
        edges.refuses("one more, of other bytes", Edges.STATE, filled(25), x -> x.append(-1, -1, -1, -1, -1));
        edges.is("the full buffer is read behind it", 0, () -> {
            TelescopeNight x = filled(25).get();
            Check.outcome(() -> x.append(-1, -1, -1, -1, -1));
            return x;
        }, x -> x.load(500));
    }

    // ---- load

    private void firstBytes() {
        String text = "night 1;sky 100 1 1;";
        String[] good = {text.substring(0, 8), text};
        for (String part : good) {
            edges.is("the first " + part.length(), 0, () -> filledWith(text), x -> x.load(part.length()));
        }
        edges.is("the first 9", -2, () -> filledWith(text), x -> x.load(9));
        edges.is("only what is read counts", 500000, () -> {
            TelescopeNight x = filledWith(text);
            x.load(8);
            return x;
        }, x -> x.clearOdds(0));
        firstBytesAlone("night 12;moon 11 11 -11 11 11 11;sky 11 11 11;target 1 11 11 -10 11 11 11 1 11;");
        firstBytesAlone("night 11;moon 11 11 -10 11 11 11;sky 11 11 11;target 1 11 11 -10 11 11 11 1 11;");
    }

    /** Neither the bytes behind the length matter, nor those that an earlier load has read. */
    private void firstBytesAlone(String text) {
        for (int length = 0; length <= text.length(); length++) {
            String first = text.substring(0, length);
            String due = loaded(new TelescopeNight(), padded(first, text.length()), length);
            check.same("'" + first + "' with bytes behind it", loaded(new TelescopeNight(), text, length), due);
            TelescopeNight used = new TelescopeNight();
            Check.load(used, "x".repeat(500));
            used.load(0);
            check.same("'" + first + "' behind letters", loaded(used, first, length), due);
            TelescopeNight digits = new TelescopeNight();
            Check.load(digits, "1".repeat(500));
            digits.load(0);
            check.same("'" + first + "' behind digits", loaded(digits, first, length), due);
        }
    }

    private static String loaded(TelescopeNight x, String text, int length) {
        Check.fill(x, text);
        return Check.outcome(() -> x.load(length)) + " " + Edges.now(x);
    }

    private static TelescopeNight filledWith(String text) {
        TelescopeNight x = new TelescopeNight();
        Check.fill(x, text);
        return x;
    }

    private void replaces() {
        TelescopeNight x = Edges.at(Edges.PAIR, "clear x0 w1 clear").get();
        check.is("load what is left in the buffer", 0, () -> x.load(20));
        int[] due = {7, 0, 0, 0, 0, 0, 0};
        for (int what = 0; what < due.length; what++) {
            int w = what;
            check.is("count " + w, due[w], () -> x.count(w));
        }
        check.is("the load is undone", 5, x::undo);
        check.is("the present slot", 1, () -> x.count(3));
        TelescopeNight y = Edges.at(Edges.PAIR, "clear x0 w0 w1").get();
        y.load(0);
        Check.load(y, Edges.PAIR);
        check.is("nobody has waived", 3, y::inTurn);
        check.refuses("no slot is over", Edges.INDEX, () -> y.past(0, 0));
        check.is("nothing is exposed", 0, () -> y.exposures(0));
        TelescopeNight over = Edges.at("night 1;", "pass").get();
        over.load(20);
        check.is("a night that was over begins again", 0, () -> over.count(3));
    }

    private void stays() {
        for (String text : new String[] {"night 7;x", "night 13;", "night 7;sky 101 1 1;",
            "night 7;moon 1 1 1 1 1 1;sky 1 1 1;" + TARGET.repeat(7)}) {
            for (String moves : new String[] {"", "clear", "cloudy pass", "clear x0 w1 clear"}) {
                edges.check.same("'" + text + "' behind '" + moves + "'",
                        withError(moves, text, true), withError(moves, text, false));
            }
        }
    }

    /** What is seen of a night behind a load with an error, or behind one of nothing at all. */
    private static String withError(String moves, String text, boolean loaded) {
        TelescopeNight x = Edges.at(Edges.PAIR, moves).get();
        x.load(0);
        if (loaded) {
            Check.load(x, text);
            x.load(0);
        }
        return Edges.future(x);
    }

    private void emptied() {
        for (String text : new String[] {"night 7;", "night 13;", "x"}) {
            TelescopeNight x = filledWith(text);
            x.load(text.length());
            check.refuses("behind '" + text + "' there is no byte", Edges.ARGUMENT, () -> x.load(1));
            check.is("but none can be read", -2, () -> x.load(0));
            check.is("and append begins at 0", 20, () -> Edges.append(x));
            check.is("with new bytes", -2, () -> x.load(20));
        }
        TelescopeNight part = filledWith("night 7;night 8;");
        part.load(8);
        check.refuses("what was not read is gone", Edges.ARGUMENT, () -> part.load(8));
    }

    private void goodLengths() {
        edges.is("0 of an empty buffer", -2, TelescopeNight::new, x -> x.load(0));
        edges.is("0 of a full buffer", -2, filled(25), x -> x.load(0));
        edges.is("all of a full buffer", 0, filled(25), x -> x.load(500));
        edges.is("one less", 0, filled(25), x -> x.load(499));
        edges.is("20 of 20", 0, Edges.fresh(), x -> x.load(20));
    }

    private void answers() {
        for (int targets = 0; targets <= 6; targets++) {
            edges.text("night 1;" + TARGET.repeat(targets), targets, -1);
        }
        edges.text("x", TelescopeNight.SYNTAX_ERROR, 0);
        edges.text("night 0", TelescopeNight.VALUE_ERROR, 6);
        edges.text(SIX + "target", TelescopeNight.TOO_MANY, SIX.length());
    }

    private void badLengths() {
        for (int length : new int[] {-1, 21, 500, 501, Edges.LEAST, Edges.MOST}) {
            edges.refuses("load " + length + " of 20", Edges.ARGUMENT, Edges.at(Edges.PAIR, "clear x0"),
                    x -> x.load(length));
        }
        for (int length : new int[] {-1, 501, Edges.LEAST, Edges.MOST}) {
            edges.refuses("load " + length + " of 500", Edges.ARGUMENT, filled(25), x -> x.load(length));
        }
        edges.refuses("load 1 of 0", Edges.ARGUMENT, TelescopeNight::new, x -> x.load(1));
        edges.refuses("load -1 of 0", Edges.ARGUMENT, TelescopeNight::new, x -> x.load(-1));
    }

    // ---- errorPosition

    private void latestError() {
        TelescopeNight x = new TelescopeNight();
        Check.load(x, "night 1;sky 1 1 101;");
        check.is("an error", 16, x::errorPosition);
        Check.load(x, "x");
        check.is("a later one", 0, x::errorPosition);
        Check.load(x, padded("night 1", 500));
        check.is("at the end of the longest text", 500, x::errorPosition);
        check.refuses("a load that throws", Edges.ARGUMENT, () -> x.load(-1));
        check.is("tells nothing", 500, x::errorPosition);
        x.pass();
        x.undo();
        x.restart();
        Edges.append(x);
        check.is("nor do other calls", 500, x::errorPosition);
    }

    private void noError() {
        TelescopeNight x = new TelescopeNight();
        check.is("without a call", -1, x::errorPosition);
        check.refuses("a load that throws", Edges.ARGUMENT, () -> x.load(1));
        check.is("only a call that threw", -1, x::errorPosition);
        Check.load(x, "x");
        Check.load(x, "night 1;");
        check.is("a load without an error", -1, x::errorPosition);
        check.refuses("a load that throws", Edges.ARGUMENT, () -> x.load(1));
        check.is("behind it", -1, x::errorPosition);
    }
}
