import java.io.IOException;
import java.lang.reflect.Method;
import java.lang.reflect.Modifier;
import java.nio.file.Files;
import java.nio.file.Path;
import java.util.ArrayList;
import java.util.Comparator;
import java.util.List;
import java.util.regex.Matcher;
import java.util.regex.Pattern;
import java.util.stream.Stream;

/** README.md: its commands work on a copy of the checkout, its example prints what it says, it names every call. */
public final class ReadmeTest {
    /** The command that runs this test: to run it here would have no end. */
    private static final String ALL_TESTS = ".ci/run";

    /** What stands between two fences of README.md, and its kind: java, sh, text. */
    private record Block(String kind, String content) { }

    private static int checked = 0;
    private static int wrong = 0;

    private static void check(boolean holds, String what) {
        checked++;
        if (holds) return;
        wrong++;
        System.out.println(what);
    }

    private static List<Block> blocksOf(String readme) {
        List<Block> blocks = new ArrayList<>();
        Matcher m = Pattern.compile("(?ms)^```(\\w+)\n(.*?)^```$").matcher(readme);
        while (m.find()) blocks.add(new Block(m.group(1), m.group(2)));
        return blocks;
    }

    /** A checkout without what was built, with the given documents and tests beside it. */
    private static Path cleanCopy(Path room) throws IOException {
        Path copy = Files.createDirectory(room.resolve("main"));
        for (String part : new String[] {"src", ".ci", "README.md"}) {
            try (Stream<Path> all = Files.walk(Path.of(part))) {
                for (Path p : (Iterable<Path>) all::iterator) Files.copy(p, copy.resolve(p.toString()));
            }
        }
        Files.createSymbolicLink(room.resolve("shared"), Path.of("../shared").toRealPath());
        return copy;
    }

    private static void remove(Path room) throws IOException {
        try (Stream<Path> all = Files.walk(room)) {
            for (Path p : (Iterable<Path>) all.sorted(Comparator.reverseOrder())::iterator) Files.delete(p);
        }
    }

    /** What the commands print; a command that fails is told, and ends them. */
    private static String printed(Path where, String commands) throws IOException, InterruptedException {
        Process p = new ProcessBuilder("sh", "-e", "-c", commands)
                .directory(where.toFile()).redirectErrorStream(true).start();
        p.getOutputStream().close();
        String out = new String(p.getInputStream().readAllBytes());
        check(p.waitFor() == 0, "README.md's commands fail:\n" + commands + out);
        return out;
    }

    private static void saveExample(Path copy, String source) throws IOException {
        Matcher m = Pattern.compile("public class (\\w+)").matcher(source);
        boolean named = m.find();
        check(named, "README.md's example has no name");
        if (named) Files.writeString(copy.resolve(m.group(1) + ".java"), source);
    }

    private static void blocks(Path copy, List<Block> blocks) throws IOException, InterruptedException {
        String out = "";
        int ran = 0;
        for (Block b : blocks) {
            if (b.kind().equals("java")) {
                saveExample(copy, b.content());
            } else if (b.kind().equals("text")) {
                check(out.equals(b.content()), "README.md says:\n" + b.content() + "but printed is:\n" + out);
            } else if (b.content().trim().equals(ALL_TESTS)) {
                check(Files.isExecutable(copy.resolve(ALL_TESTS)), ALL_TESTS + " can not be run");
                ran++;
            } else {
                check(b.kind().equals("sh"), "README.md has a block that nobody tries: " + b.kind());
                out = printed(copy, b.content());
                ran++;
            }
        }
        check(ran >= 3, "README.md says not how to run the tests");
    }

    /** So that each command stands in a block, and is tried. */
    private static void noCommandBeside(String readme) {
        Matcher m = Pattern.compile("`(javac?|sh) [^`]*`").matcher(readme);
        while (m.find()) check(false, "README.md has a command that nobody tries: " + m.group());
    }

    private static void namesAll(String readme) throws IOException {
        for (Method m : BreakLearner.class.getDeclaredMethods()) {
            if (!Modifier.isPublic(m.getModifiers())) continue;
            Matcher call = Pattern.compile("`" + m.getName() + "\\(([^)`]*)\\)`").matcher(readme);
            boolean named = call.find();
            int told = !named || call.group(1).isEmpty() ? 0 : call.group(1).split(", ").length;
            check(named && told == m.getParameterCount(), "README.md does not tell how to call " + m.getName());
        }
        for (String name : new String[] {"UNKNOWN", "BAD", "LATE", "FULL", "NONE"}) {
            check(readme.contains("`" + name + "`"), "README.md does not name " + name);
        }
        try (Stream<Path> tests = Files.list(Path.of("src/test/java"))) {
            for (Path p : (Iterable<Path>) tests::iterator) {
                String name = p.getFileName().toString().replace(".java", "");
                check(readme.contains("- `" + name + "`: "), "README.md does not name " + name);
            }
        }
    }

    public static void main(String[] args) throws IOException, InterruptedException {
        String readme = Files.readString(Path.of("README.md"));
        namesAll(readme);
        noCommandBeside(readme);
        Path room = Files.createTempDirectory("readme");
        try {
            blocks(cleanCopy(room), blocksOf(readme));
        } finally {
            remove(room);
        }
        System.out.println(checked + " things that README.md says, " + wrong + " are not so");
        if (wrong != 0) System.exit(1);
    }
}
