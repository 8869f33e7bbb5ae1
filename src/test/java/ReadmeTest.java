import java.io.IOException;
import java.lang.reflect.Field;
import java.nio.file.Files;
import java.nio.file.Path;
import java.util.ArrayList;
import java.util.List;
import java.util.TreeMap;
import java.util.TreeSet;
import java.util.function.IntPredicate;
import java.util.function.IntUnaryOperator;
import java.util.regex.Matcher;
import java.util.regex.Pattern;
import java.util.stream.Stream;

/** What README.md says: its commands are run, its example is compared, and its tables with the document. */
public final class ReadmeTest {
    private static final Path README = Path.of(System.getProperty("ledger.readme", "README.md")).toAbsolutePath();
    private static final Path ROOT = README.getParent();
    private static final Path DOCUMENT = Path.of(System.getProperty("ledger.document", "../shared/DOC.md"));
    private static final Pattern BLOCK = Pattern.compile("(?ms)^```(\\w+)\\n(.*?)^```$");
    private static final Pattern ROW = Pattern.compile("(?m)^\\| `(\\w+)\\(([\\w, ]*)\\)` \\|(.*)\\|([^|]*)\\|([^|]*)\\|$");

    private static String readme;

    public static void main(String[] args) throws IOException, InterruptedException {
        readme = Files.readString(README);
        commands();
        codes();
        reasons();
        if (Files.isReadable(DOCUMENT)) {
            String document = Files.readString(DOCUMENT);
            calls(document);
            grammar(document);
        }
        selectors();
        script();
        Due.end("ReadmeTest");
    }

    private static List<String> blocks(String language) {
        List<String> found = new ArrayList<>();
        Matcher block = BLOCK.matcher(readme);
        while (block.find()) {
            if (block.group(1).equals(language)) {
                found.add(block.group(2));
            }
        }
        return found;
    }

    /** Runs each block of commands but that of .ci/run, which runs this test, on a copy of the project. */
    private static void commands() throws IOException, InterruptedException {
        String example = blocks("java").get(0);
        Path copy = Files.createTempDirectory("readme");
        try {
            copyTree(ROOT.resolve("src"), copy.resolve("src"));
            Files.writeString(copy.resolve("Example.java"), example);
            boolean ranExample = false;
            for (String block : blocks("sh")) {
                if (!block.contains(".ci/run")) {
                    String printed = run(copy, block);
                    if (block.contains("java -cp out Example")) {
                        ranExample = true;
                        compareExample(example, printed);
                    }
                }
            }
            Due.holds("the example is run", ranExample);
        } finally {
            deleteTree(copy);
        }
    }

    private static String run(Path place, String block) throws IOException, InterruptedException {
        Process process = new ProcessBuilder("sh", "-e", "-c", block)
            .directory(place.toFile()).redirectErrorStream(true).start();
        String printed = new String(process.getInputStream().readAllBytes());
        int code = process.waitFor();
        Due.is("the commands\n" + block, code, 0);
        if (code != 0) {
            System.out.println(printed);
        }
        return printed;
    }

    private static void compareExample(String example, String printed) {
        List<String> lines = new ArrayList<>();
        Matcher line = Pattern.compile("(?m)^ *say\\((.*)\\); *// (-?\\d+)").matcher(example);
        while (line.find()) {
            lines.add(line.group(1));
            lines.add(line.group(2));
        }
        String[] answers = printed.strip().split("\\R");
        Due.is("lines that the example prints", answers.length, lines.size() / 2);
        for (int i = 0; i < answers.length && 2 * i < lines.size(); i++) {
            Due.is(lines.get(2 * i), Integer.parseInt(answers[i]), Integer.parseInt(lines.get(2 * i + 1)));
        }
        Matcher row = ROW.matcher(readme);
        while (row.find()) {
            Due.holds("the example calls " + row.group(1), example.contains("ledger." + row.group(1) + "("));
        }
    }

    private static void codes() throws IOException {
        int found = 0;
        for (Field field : EncounterLedger.class.getFields()) {
            Matcher row = Pattern.compile("(?m)^\\| (-\\d) \\| `" + field.getName() + "` \\|").matcher(readme);
            Due.holds("a row for " + field.getName(), row.find());
            try {
                Due.is(field.getName(), Integer.parseInt(row.group(1)), field.getInt(null));
            } catch (IllegalAccessException e) {
                throw new IllegalStateException(e);
            }
            found++;
        }
        Due.is("constants", found, 4);
    }

    private static void reasons() {
        Matcher row = Pattern.compile("(?m)^\\| (\\d+) \\| [^|]+ \\|$").matcher(readme);
        int reasons = 0;
        while (row.find()) {
            reasons++;
            Due.is("the reason in row " + reasons, Integer.parseInt(row.group(1)), reasons);
        }
        Due.is("rows of reasons", reasons, 11);
    }

    /** Each call of the document's face has one row, with its arguments, and with its errors in their order. */
    private static void calls(String document) {
        TreeMap<String, String> face = new TreeMap<>();
        Matcher promise = Pattern.compile("(?ms)^`int (\\w+)\\(([^)]*)\\)`$(.*?)(?=^## |\\z)").matcher(document);
        while (promise.find()) {
            String told = promise.group(3);
            face.put(promise.group(1) + "(" + promise.group(2).replace("int ", "") + ")", told);
        }
        Due.is("promises of calls", face.size(), 26);
        TreeSet<String> seen = new TreeSet<>();
        Matcher row = ROW.matcher(readme);
        while (row.find()) {
            String call = row.group(1) + "(" + row.group(2) + ")";
            Due.holds("one row for " + call, seen.add(call));
            Due.holds(call + " is in the document", face.containsKey(call));
            String told = face.getOrDefault(call, "");
            String due = errorsOf(told.substring(Math.max(0, told.lastIndexOf("\nReturns "))));
            String got = row.group(5).strip();
            Due.holds("errors of " + call + " are " + due + ", not " + got, got.equals(due));
            boolean canBeAbsent = told.replace("-5 to 9", "").contains("-5");
            Due.holds("-5 of " + call, row.group(4).contains("-5") == canBeAbsent);
            Due.holds("-100 of " + call, row.group(4).contains("-100") == told.contains("-100"));
        }
        Due.holds("a row for each of " + face.keySet(), seen.equals(face.keySet()));
    }

    private static String errorsOf(String returns) {
        StringBuilder errors = new StringBuilder();
        Matcher code = Pattern.compile("\\b(NONE|BAD|STATE|FULL)\\b(?: with the reason ([\\d, or]*\\d))?").matcher(returns);
        while (code.find()) {
            errors.append(errors.length() == 0 ? "`" : ", `").append(code.group(1)).append('`');
            if (code.group(2) != null) {
                errors.append(" (").append(code.group(2).replace(" or ", ", ")).append(')');
            }
        }
        return errors.toString();
    }

    private static void grammar(String document) {
        for (String line : blocks("text").get(0).split("\n")) {
            Due.holds("the document has: " + line, document.contains("  " + line + "\n"));
        }
    }

    /** The numbers that what can be, and no others, are taken by the calls. */
    private static void selectors() {
        EncounterLedger x = new EncounterLedger();
        x.add(0, 44, 9, 0, 1);
        Due.read(x, 0, "s0:k2111");
        x.begin(0);
        x.cast(0, 44, 0);
        selector("fighter", what -> x.fighter(0, what), EncounterLedger.NONE - 99);
        selector("turn", x::turn, EncounterLedger.NONE);
        selector("condition", what -> x.condition(0, what), EncounterLedger.NONE);
        selector("entry", what -> x.entry(0, what), EncounterLedger.NONE);
        selector("replayed", what -> x.replayed(0, what), EncounterLedger.NONE);
        selector("account", x::account, EncounterLedger.NONE);
        selector("count", x::count, EncounterLedger.NONE);
    }

    private static void selector(String call, IntUnaryOperator tell, int invalid) {
        Matcher bullet = Pattern.compile("(?ms)^- `" + call + "`: (.*?)(?=^- |^$)").matcher(readme);
        Due.holds("a line for what of " + call, bullet.find());
        String told = bullet.group(1).replaceAll("\\s+", " ");
        IntPredicate listed = what -> false;
        Matcher item = Pattern.compile("(?:^|, )(\\d+)( \\+ ([rki]))? [a-z]").matcher(told);
        while (item.find()) {
            int first = Integer.parseInt(item.group(1));
            String letter = item.group(3);
            int last = letter == null ? first : letter.equals("r") ? first + 2 : letter.equals("k") ? first + 5 : 99;
            listed = listed.or(what -> what >= first && what <= last);
        }
        for (int what = -9; what <= 99; what++) {
            boolean taken = tell.applyAsInt(what) != invalid;
            Due.holds(call + " with what = " + what + " is as listed", taken == listed.test(what));
        }
    }

    private static void script() {
        Due.holds(".ci/run is executable", Files.isExecutable(ROOT.resolve(".ci/run")));
        Due.holds("README.md tells of .ci/run", readme.contains("\nsh .ci/run\n"));
    }

    private static void copyTree(Path from, Path to) throws IOException {
        try (Stream<Path> all = Files.walk(from)) {
            for (Path one : (Iterable<Path>) all::iterator) {
                Path goal = to.resolve(from.relativize(one).toString());
                if (Files.isDirectory(one)) {
                    Files.createDirectories(goal);
                } else {
                    Files.copy(one, goal);
                }
            }
        }
    }

    private static void deleteTree(Path root) throws IOException {
        List<Path> all;
        try (Stream<Path> walk = Files.walk(root)) {
            all = new ArrayList<>(walk.toList());
        }
        for (int i = all.size() - 1; i >= 0; i--) {
            Files.delete(all.get(i));
        }
    }
}
