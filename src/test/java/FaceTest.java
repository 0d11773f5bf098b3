import java.io.IOException;
import java.lang.reflect.Constructor;
import java.lang.reflect.Field;
import java.lang.reflect.Method;
import java.lang.reflect.Modifier;
import java.nio.file.Files;
import java.nio.file.Path;
import java.util.Arrays;
import java.util.List;
import java.util.Set;
import java.util.TreeSet;
import java.util.regex.Matcher;
import java.util.regex.Pattern;
import java.util.stream.Collectors;

/** The public face, line by line as the document writes it, and what the source may not hold. */
public final class FaceTest {
    private static final Path SOURCE = Path.of("src/main/java/TelescopeNight.java");
    private static final String[] NOT_IN_THE_SOURCE = {
        "\\bcatch\\b", "\\bfinally\\b", "\\bsynchronized\\b", "\\bassert\\b", "->", "::", "\\bdouble\\b",
        "\\bfloat\\b", "\\bRandom\\b", "\\bSystem\\.(?!arraycopy)", "\\bThread\\b", "Exact\\(",
        "\\bstatic\\s*\\{", "^package\\b", "\\bpublic static final class\\b", "\\bnew \\w*Exception\\([^\")]"};

    private static final Pattern METHOD = Pattern.compile("public (int|long|void) (\\w+)\\(.*\\).*;");
    private static final Pattern CONSTANT = Pattern.compile("public static final int (\\w+) = (.*);");
    private static final Pattern CONSTRUCTOR = Pattern.compile("public TelescopeNight\\(\\);");

    private final Check check = new Check("FaceTest");
    private final List<String> face = new Document().face();

    public static void main(String[] args) throws IOException {
        FaceTest test = new FaceTest();
        test.lookAtTheDocument();
        test.lookAtMethods();
        test.lookAtTheWords();
        test.lookAtTheRest();
        test.lookAtClassesInside();
        test.lookAtTheSource();
        test.check.end();
    }

    /** Each line of the document's face is of a form that is looked at below. */
    private void lookAtTheDocument() {
        check.same("methods of the document", "" + lines(METHOD).size(), "38");
        check.same("constants of the document", "" + lines(CONSTANT).size(), "4");
        check.same("constructors of the document", "" + lines(CONSTRUCTOR).size(), "1");
        check.same("lines of the document", "" + face.size(), "" + (38 + 4 + 1));
    }

    private List<String> lines(Pattern form) {
        return face.stream().filter(line -> form.matcher(line).matches()).toList();
    }

    private static String form(Method method) {
        return method.getReturnType() + " " + method.getName() + "(" + names(method.getParameterTypes())
                + ") throws " + names(method.getExceptionTypes());
    }

    private static String names(Class<?>[] types) {
        return Arrays.stream(types).map(Class::getSimpleName).collect(Collectors.joining(","));
    }

    /** A line of the document in the form that reflection gives. */
    private static String form(String line) {
        String withThrows = line.contains(" throws ") ? line : line.replace(";", " throws ;");
        return withThrows.replaceAll("^public |;$", "").replaceAll("(int|boolean) \\w+(?=[,)])", "$1")
                .replace(", ", ",");
    }

    private void lookAtMethods() {
        Set<String> found = new TreeSet<>();
        for (Method method : TelescopeNight.class.getDeclaredMethods()) {
            if (!Modifier.isPrivate(method.getModifiers())) {
                found.add(form(method));
                check.same(method + " is public alone", "" + method.getModifiers(), "" + Modifier.PUBLIC);
            }
        }
        Set<String> due = new TreeSet<>();
        lines(METHOD).forEach(line -> due.add(form(line)));
        check.same("the methods", found.toString(), due.toString());
    }

    /** The parameters' names and the constants' values can be seen in the source alone. */
    private void lookAtTheWords() throws IOException {
        String source = Files.readString(SOURCE).replaceAll("\\s+", " ");
        for (String line : face) {
            boolean constant = CONSTANT.matcher(line).matches();
            String due = constant ? line : line.replace(";", " {");
            check.same("the source has '" + due + "'", "" + source.contains(due), "true");
        }
    }

    private void lookAtTheRest() {
        Set<String> fields = new TreeSet<>();
        for (Field field : TelescopeNight.class.getDeclaredFields()) {
            if (!Modifier.isPrivate(field.getModifiers())) {
                fields.add(Modifier.toString(field.getModifiers()) + " " + field.getName());
            }
        }
        Set<String> due = new TreeSet<>();
        lines(CONSTANT).forEach(line -> due.add(line.replaceAll(" int | = .*", " ").trim()));
        check.same("the constants", fields.toString(), due.toString());
        Constructor<?>[] constructors = TelescopeNight.class.getDeclaredConstructors();
        check.same("the constructors", Arrays.toString(constructors), "[public TelescopeNight()]");
        check.same("the class", Modifier.toString(TelescopeNight.class.getModifiers()), "public final");
    }

    private void lookAtClassesInside() {
        Set<String> names = new TreeSet<>();
        lines(METHOD).forEach(line -> names.add(METHOD.matcher(line).replaceAll("$2")));
        for (Method method : TelescopeNight.class.getDeclaredMethods()) {
            boolean hidden = Modifier.isPrivate(method.getModifiers());
            boolean taken = hidden && names.contains(method.getName());
            check.same(method + " has a name of its own", "" + taken, "false");
        }
        for (Class<?> inside : TelescopeNight.class.getDeclaredClasses()) {
            check.same(inside + " is static", "" + Modifier.isStatic(inside.getModifiers()), "true");
            check.same(inside + " is not public", "" + Modifier.isPublic(inside.getModifiers()), "false");
            for (Method method : inside.getDeclaredMethods()) {
                check.same(method + " has a name of its own", "" + names.contains(method.getName()), "false");
            }
        }
    }

    private void lookAtTheSource() throws IOException {
        String source = Files.readString(SOURCE);
        for (String word : NOT_IN_THE_SOURCE) {
            boolean found = Pattern.compile(word, Pattern.MULTILINE).matcher(withoutComments(source)).find();
            check.same("the source holds " + word, "" + found, "false");
        }
        Matcher imports = Pattern.compile("^import (.*);$", Pattern.MULTILINE).matcher(source);
        Set<String> found = new TreeSet<>();
        while (imports.find()) {
            found.add(imports.group(1));
        }
        check.same("imports", found.toString(), "[java.util.Arrays, java.util.NoSuchElementException]");
    }

    private static String withoutComments(String source) {
        return source.replaceAll("(?s)/\\*.*?\\*/", "").replaceAll("//[^\n]*", "");
    }
}
