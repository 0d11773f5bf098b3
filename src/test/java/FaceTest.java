import java.io.IOException;
import java.lang.reflect.Constructor;
import java.lang.reflect.Field;
import java.lang.reflect.Method;
import java.lang.reflect.Modifier;
import java.nio.file.Files;
import java.nio.file.Path;
import java.util.Arrays;
import java.util.Set;
import java.util.TreeSet;
import java.util.regex.Matcher;
import java.util.regex.Pattern;

/** The public face as the document writes it, and what the source may not hold. */
public final class FaceTest {
    private static final Path SOURCE = Path.of("src/main/java/TelescopeNight.java");
    private static final String[] FACE = {
        "int append(int,int,int,int,int)", "int load(int)", "int errorPosition()", "int count(int)",
        "int height(int,int)", "int moonHeight(int)", "int moonDistance(int,int)", "int window(int)",
        "int observable(int)", "int highestSlot(int)", "int latestStart(int)", "int clearOdds(int)",
        "int clearRun(int,int)", "int look(boolean)", "int expose(int)", "int pass()",
        "int waive(int)", "void restart()", "int inTurn()", "int turnsOf(int)", "int exposures(int)",
        "int past(int,int)", "long planValue()", "int planned(int)", "long planValueWith(int,int)",
        "long planCount()", "long worth(int)", "long priceOfTurns()", "int mostExposures(boolean)",
        "long greedyValue()", "long meanValue()", "long meanValueOf(int)", "int decision()",
        "long meanExposures(int)", "long finishOdds(int)", "long greedyMean()", "long worthOfClear()",
        "int undo()"};
    private static final String[] NOT_IN_THE_SOURCE = {
        "\\bcatch\\b", "\\bfinally\\b", "\\bsynchronized\\b", "\\bassert\\b", "->", "::", "\\bdouble\\b",
        "\\bfloat\\b", "\\bRandom\\b", "\\bSystem\\.(?!arraycopy)", "\\bThread\\b", "Exact\\(",
        "\\bstatic\\s*\\{", "^package\\b", "\\bpublic static final class\\b", "\\bnew \\w*Exception\\([^\")]"};

    private final Check check = new Check("FaceTest");

    public static void main(String[] args) throws IOException {
        FaceTest test = new FaceTest();
        test.lookAtMethods();
        test.lookAtTheRest();
        test.lookAtClassesInside();
        test.lookAtTheSource();
        test.check.end();
    }

    private static String form(Method method) {
        StringBuilder text = new StringBuilder(method.getReturnType() + " " + method.getName() + "(");
        for (Class<?> type : method.getParameterTypes()) {
            text.append(text.charAt(text.length() - 1) == '(' ? "" : ",").append(type);
        }
        return text.append(")").toString();
    }

    private void lookAtMethods() {
        Set<String> found = new TreeSet<>();
        for (Method method : TelescopeNight.class.getDeclaredMethods()) {
            if (!Modifier.isPrivate(method.getModifiers())) {
                found.add(form(method));
                check.same(method + " is public alone", "" + method.getModifiers(), "" + Modifier.PUBLIC);
            }
        }
        check.same("the methods", found.toString(), new TreeSet<>(Arrays.asList(FACE)).toString());
    }

    private void lookAtTheRest() {
        Set<String> fields = new TreeSet<>();
        for (Field field : TelescopeNight.class.getDeclaredFields()) {
            if (!Modifier.isPrivate(field.getModifiers())) {
                fields.add(Modifier.toString(field.getModifiers()) + " " + field.getName());
            }
        }
        check.same("the constants", fields.toString(), "[public static final NONE, "
                + "public static final SYNTAX_ERROR, public static final TOO_MANY, "
                + "public static final VALUE_ERROR]");
        Constructor<?>[] constructors = TelescopeNight.class.getDeclaredConstructors();
        check.same("the constructors", Arrays.toString(constructors), "[public TelescopeNight()]");
        check.same("the class", Modifier.toString(TelescopeNight.class.getModifiers()), "public final");
    }

    private void lookAtClassesInside() {
        Set<String> face = new TreeSet<>();
        for (String form : FACE) {
            face.add(form.replaceAll(".* |\\(.*", ""));
        }
        for (Class<?> inside : TelescopeNight.class.getDeclaredClasses()) {
            check.same(inside + " is static", "" + Modifier.isStatic(inside.getModifiers()), "true");
            check.same(inside + " is not public", "" + Modifier.isPublic(inside.getModifiers()), "false");
            for (Method method : inside.getDeclaredMethods()) {
                check.same(method + " has a name of its own", "" + face.contains(method.getName()), "false");
            }
        }
    }

    private void lookAtTheSource() throws IOException {
        String source = Files.readString(SOURCE);
        for (String word : NOT_IN_THE_SOURCE) {
            boolean found = Pattern.compile(word, Pattern.MULTILINE).matcher(withoutComments(source)).find();
            check.same("the source holds " + word, "" + found, "false");
        }
        Matcher imports = Pattern.compile("^import (.*);$", Pattern.MULTILINE).matcher(source);
        Set<String> found = new TreeSet<>();
        while (imports.find()) {
            found.add(imports.group(1));
        }
        check.same("imports", found.toString(), "[java.util.Arrays, java.util.NoSuchElementException]");
    }

    private static String withoutComments(String source) {
        return source.replaceAll("(?s)/\\*.*?\\*/", "").replaceAll("//[^\n]*", "");
    }
}
