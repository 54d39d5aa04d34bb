import java.io.IOException;
import java.lang.reflect.Field;
import java.lang.reflect.Method;
import java.lang.reflect.Modifier;
import java.nio.file.Files;
import java.nio.file.Path;
import java.util.List;
import java.util.Set;
import java.util.TreeSet;
import java.util.regex.Pattern;

/** The public face, and those rules of LANGUAGE.md that can be seen from the text. Runs in the project's folder. */
public final class SourceTests {
    private static final String[] FACE = {
        "int feed(int, int, int, int, int)", "boolean end(int)", "boolean stage(int)",
        "int method(int) IndexOutOfBoundsException", "int compose()", "int fault()",
        "int lead(int, int) NoSuchElementException", "int head(int, int) NoSuchElementException",
        "int course(int) NoSuchElementException", "int line(int, int, int) NoSuchElementException",
        "int falseHeads(int, int) NoSuchElementException", "int falseHead(int, int, int) NoSuchElementException",
        "int touch(int)", "int called(int, int) NoSuchElementException", "int row(int) NoSuchElementException",
        "int music()", "int whole()", "int find(int, int, int) IllegalArgumentException NoSuchElementException",
        "int count(int)",
    };

    /** What the rules rule out, or what the program needs none of. */
    private static final String[] UNWANTED = {
        "\\bcatch\\b", "\\btry\\b", "\\bfinally\\b", "\\bsynchronized\\b", "\\bassert\\b", "->", "::", "@", "\\bdouble\\b",
        "\\bfloat\\b", "\\bpackage\\b", "static \\{", "\\bSystem\\b", "\\bThread\\b", "\\bString\\b", "\\bprotected\\b",
        "\\bequals\\b", "\\bhashCode\\b", "\\btoString\\b", "\\bnative\\b", "\\bvolatile\\b", "Exact\\(",
    };

    public static void main(String[] args) throws IOException {
        face();
        String source = Files.readString(Path.of("src/main/java/BellTower.java"));
        String code = source.replaceAll("(?s)/\\*.*?\\*/", "").replaceAll("//[^\n]*", "");
        unwanted(code);
        imports(code);
        indexes(code);
        lengths(source.split("\n"));
        Check.due("signs 1 to 127 alone", true, source.chars().allMatch(sign -> sign < 128));
        Check.close("SourceTests");
    }

    private static void face() {
        Set<String> got = new TreeSet<>();
        for (Method method : BellTower.class.getDeclaredMethods()) {
            if (!Modifier.isPrivate(method.getModifiers())) {
                got.add(shape(method));
            }
        }
        Check.due("the face: " + got, true, got.equals(new TreeSet<>(List.of(FACE))));
        Check.due("one constructor", 1, () -> BellTower.class.getDeclaredConstructors().length);
        Check.due("it is public", 1, () -> BellTower.class.getConstructors().length);
        Check.due("final", true, Modifier.isFinal(BellTower.class.getModifiers()));
        Check.due("NONE", -1, () -> BellTower.NONE);
        for (Field field : BellTower.class.getDeclaredFields()) {
            boolean hidden = Modifier.isPrivate(field.getModifiers()) || field.getName().equals("NONE");
            Check.due("field " + field.getName() + " is private", true, hidden);
        }
        int classes = 1;
        for (Class<?> inside : BellTower.class.getDeclaredClasses()) {
            classes++;
            Check.due(inside + " is static", true, Modifier.isStatic(inside.getModifiers()));
            Check.due(inside + " is private", true, Modifier.isPrivate(inside.getModifiers()));
            fields(inside);
        }
        int all = classes;
        Check.due("some twelve classes", true, all <= 12);
        fields(BellTower.class);
    }

    private static String shape(Method method) {
        StringBuilder shape = new StringBuilder();
        shape.append(method.getReturnType()).append(' ').append(method.getName()).append('(');
        for (int i = 0; i < method.getParameterCount(); i++) {
            shape.append(i > 0 ? ", " : "").append(method.getParameterTypes()[i]);
        }
        shape.append(')');
        for (Class<?> thrown : method.getExceptionTypes()) {
            shape.append(' ').append(thrown.getSimpleName());
        }
        return shape.toString();
    }

    private static void fields(Class<?> one) {
        int many = 0;
        for (Field field : one.getDeclaredFields()) {
            boolean fixed = Modifier.isStatic(field.getModifiers());
            many += fixed ? 0 : 1;
            Check.due(field + " is final if static", true, !fixed || Modifier.isFinal(field.getModifiers()));
        }
        int all = many;
        Check.due(one + " has some twenty fields at most", true, all <= 20);
        for (Method method : one.getDeclaredMethods()) {
            Check.due(method + " has seven parameters at most", true, method.getParameterCount() <= 7);
            boolean inside = one != BellTower.class || Modifier.isPrivate(method.getModifiers());
            boolean faced = false;
            for (String shape : FACE) {
                faced |= shape.contains(" " + method.getName() + "(");
            }
            Check.due(method + " bears no public name", true, !inside || !faced);
        }
    }

    private static void unwanted(String code) {
        for (String word : UNWANTED) {
            Check.due("no " + word, false, Pattern.compile(word).matcher(code).find());
        }
    }

    private static void imports(String code) {
        for (String line : code.split("\n")) {
            boolean other = line.startsWith("import ") && !line.equals("import java.util.NoSuchElementException;");
            Check.due(line, false, other);
        }
    }

    /** An array is asked at an index in these lines alone; each tests it. */
    private static void indexes(String code) {
        Set<String> tested = Set.of(
            "return i >= 0 && i < cells.length ? cells[i] : 0;", "cells[i] = value;",
            "return i >= 0 && i < size && i < bytes.length ? bytes[i] & 255 : END_SIGN;",
            "bytes[size] = (byte) (number >>> shift);", "methods[m] = new Method();", "Method told = methods[m];");
        Pattern index = Pattern.compile("\\w\\[\\w");
        for (String line : code.split("\n")) {
            boolean asks = index.matcher(line.replaceAll("new \\w+\\[\\w+\\]", "")).find();
            Check.due(line, true, !asks || tested.contains(line.trim()));
        }
    }

    /** A method ends with the first brace that stands as far in as the method does. */
    private static void lengths(String[] lines) {
        for (int i = 0; i < lines.length; i++) {
            Check.due("line " + (i + 1) + " is not too long", true, lines[i].length() <= 120);
            if (lines[i].matches("(?: {4}| {8})[a-zA-Z].*\\).*\\{")) {
                String close = lines[i].replaceAll("\\S.*", "") + "}";
                int end = i;
                while (end + 1 < lines.length && !lines[end].equals(close)) {
                    end++;
                }
                Check.due("the method in line " + (i + 1) + " is short", true, end - i < 60);
            }
        }
    }
}
