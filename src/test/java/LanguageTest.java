import java.io.IOException;
import java.lang.reflect.Constructor;
import java.lang.reflect.Field;
import java.lang.reflect.Method;
import java.lang.reflect.Modifier;
import java.nio.charset.StandardCharsets;
import java.nio.file.Files;
import java.nio.file.Path;
import java.util.ArrayList;
import java.util.Arrays;
import java.util.List;
import java.util.TreeSet;
import java.util.regex.Matcher;
import java.util.regex.Pattern;

/** The face of the class, and those rules of LANGUAGE.md that can be read from its form. */
public final class LanguageTest {
    private static final String[] FACE = {
        "add/5", "wall/1", "amount/3", "begin/1", "finish/0", "endTurn/0", "delay/1", "move/1", "strike/1",
        "feed/6", "power/1", "cast/3", "rest/1", "fighter/2", "turn/1", "condition/2", "area/5", "way/1",
        "entry/2", "replayed/2", "reason/0", "account/1", "back/0", "image/0", "undo/0", "count/1"};
    private static final String[] FORBIDDEN = {
        "throw", "throws", "try", "catch", "finally", "synchronized", "assert", "volatile", "transient",
        "native", "protected", "System.out", "System.exit", "Thread", "Random", "nanoTime", "currentTimeMillis",
        "hashCode", "toString", "Object", "var", "Exact", "->", "::", "@", "instanceof"};
    private static final int MOST_CLASSES = 12;
    private static final int MOST_FIELDS = 20;
    private static final int MOST_LINES = 60;
    private static final int MOST_PARAMETERS = 7;

    public static void main(String[] args) throws IOException {
        constants();
        members();
        nestedClasses();
        Path source = Path.of(System.getProperty("ledger.source", "src/main/java/EncounterLedger.java"));
        source(Files.readString(source, StandardCharsets.ISO_8859_1));
        Due.end("LanguageTest");
    }

    private static void constants() {
        Due.is("NONE", EncounterLedger.NONE, -1);
        Due.is("BAD", EncounterLedger.BAD, -2);
        Due.is("STATE", EncounterLedger.STATE, -3);
        Due.is("FULL", EncounterLedger.FULL, -4);
    }

    private static void members() {
        Class<?> face = EncounterLedger.class;
        Due.holds("public and final", Modifier.isPublic(face.getModifiers()) && Modifier.isFinal(face.getModifiers()));
        Due.is("constructors", face.getDeclaredConstructors().length, 1);
        for (Constructor<?> made : face.getDeclaredConstructors()) {
            Due.holds("a public one without parameters",
                Modifier.isPublic(made.getModifiers()) && made.getParameterCount() == 0);
        }
        TreeSet<String> open = new TreeSet<>();
        for (Method method : face.getDeclaredMethods()) {
            if (!Modifier.isPrivate(method.getModifiers())) {
                Due.holds(method + " is public", Modifier.isPublic(method.getModifiers()));
                Due.holds(method + " answers int", method.getReturnType() == int.class);
                open.add(method.getName() + "/" + method.getParameterCount());
            }
        }
        Due.holds("the methods " + open, open.equals(new TreeSet<>(Arrays.asList(FACE))));
        TreeSet<String> fields = new TreeSet<>();
        for (Field field : face.getDeclaredFields()) {
            if (!Modifier.isPrivate(field.getModifiers())) {
                fields.add(field.getName());
            }
        }
        Due.holds("the constants " + fields, fields.equals(new TreeSet<>(List.of("NONE", "BAD", "STATE", "FULL"))));
    }

    private static void nestedClasses() {
        List<Class<?>> all = new ArrayList<>(List.of(EncounterLedger.class.getDeclaredClasses()));
        Due.holds("few classes", all.size() + 1 <= MOST_CLASSES);
        TreeSet<String> faceNames = new TreeSet<>();
        for (String method : FACE) {
            faceNames.add(method.substring(0, method.indexOf('/')));
        }
        for (Class<?> nested : all) {
            Due.holds(nested + " is static", Modifier.isStatic(nested.getModifiers()));
            Due.holds(nested + " is not open",
                (nested.getModifiers() & (Modifier.PUBLIC | Modifier.PROTECTED)) == 0);
        }
        all.add(EncounterLedger.class);
        for (Class<?> one : all) {
            int fields = 0;
            for (Field field : one.getDeclaredFields()) {
                boolean fixed = Modifier.isStatic(field.getModifiers());
                Due.holds(field + " is final if static", !fixed || Modifier.isFinal(field.getModifiers()));
                fields += fixed ? 0 : 1;
            }
            Due.holds(one + " has few fields", fields <= MOST_FIELDS);
            for (Method method : one.getDeclaredMethods()) {
                Due.holds(method + " has few parameters", method.getParameterCount() <= MOST_PARAMETERS);
                Due.holds(method + " has a name of its own", Modifier.isPublic(method.getModifiers())
                    || !faceNames.contains(method.getName()));
            }
        }
    }

    private static void source(String source) {
        Due.holds("signs up to 127", source.chars().allMatch(sign -> sign <= 127));
        String code = source.replaceAll("(?s)/\\*.*?\\*/", "").replaceAll("//[^\n]*", "");
        for (String word : FORBIDDEN) {
            boolean isWord = Character.isLetter(word.charAt(0));
            Pattern pattern = Pattern.compile(isWord ? "\\b" + Pattern.quote(word) + "\\b" : Pattern.quote(word));
            Due.holds("no " + word, !pattern.matcher(code).find());
        }
        Matcher imports = Pattern.compile("(?m)^import (.*);").matcher(code);
        while (imports.find()) {
            Due.holds("import of " + imports.group(1), imports.group(1).equals("java.util.Arrays"));
        }
        Due.holds("no package line", !Pattern.compile("(?m)^package ").matcher(code).find());
        methodLengths(code);
    }

    /** A method begins with its brace behind a parenthesis, 4 or 8 columns in, and ends at the same column. */
    private static void methodLengths(String code) {
        String[] lines = code.split("\n", -1);
        for (int i = 0; i < lines.length; i++) {
            Matcher head = Pattern.compile("^( {4}| {8})\\S.*\\) \\{$").matcher(lines[i]);
            if (head.find()) {
                int end = i;
                while (end < lines.length && !lines[end].equals(head.group(1) + "}")) {
                    end++;
                }
                Due.holds("few lines in " + lines[i].trim(), end - i + 1 <= MOST_LINES);
            }
        }
    }
}
