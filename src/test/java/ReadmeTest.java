import java.io.IOException;
import java.lang.reflect.Method;
import java.lang.reflect.Modifier;
import java.nio.file.Files;
import java.nio.file.Path;
import java.util.ArrayList;
import java.util.Comparator;
import java.util.List;
import java.util.Set;
import java.util.TreeSet;
import java.util.regex.Matcher;
import java.util.regex.Pattern;
import java.util.stream.Collectors;
import java.util.stream.Stream;

/** README.md holds as it is written: its example and commands are run, and the names in it are looked up. */
public final class ReadmeTest {
    private static final String ALL_TESTS = ".ci/run\n";

    /** What stands between two fences: the word behind the first fence, and the lines. */
    private record Block(String kind, String text) {
    }

    public static void main(String[] args) throws IOException, InterruptedException {
        String readme = Files.readString(Path.of("README.md"));
        namesEveryCall(readme);
        namesEveryConstant(readme);
        namesEveryTest(readme);
        List<Block> blocks = blocksOf(readme);
        saysHowToRunAllTests(blocks);
        Path top = Files.createTempDirectory("readme");
        try {
            commandsRunAsWritten(blocks, checkoutIn(top, blocks));
        } finally {
            remove(top);
        }
        Check.finish();
    }

    private static void holds(String what, boolean right) {
        Check.due("README.md, " + what, right ? 1 : 0, 1);
    }

    /** As a row of the table of calls, with as many arguments as the call has. */
    private static void namesEveryCall(String readme) {
        Set<String> named = new TreeSet<>();
        Matcher row = Pattern.compile("^\\| `(\\w+)\\(([^)]*)\\)` \\|", Pattern.MULTILINE).matcher(readme);
        while (row.find()) {
            named.add(row.group(1) + "/" + (row.group(2).isEmpty() ? 0 : row.group(2).split(", ").length));
        }
        Set<String> calls = new TreeSet<>();
        for (Method method : TimedPair.class.getDeclaredMethods()) {
            if (Modifier.isPublic(method.getModifiers())) {
                calls.add(method.getName() + "/" + method.getParameterCount());
            }
        }
        holds("calls " + named, named.equals(calls));
    }

    private static void namesEveryConstant(String readme) {
        holds("BAD_ARG", readme.contains("`BAD_ARG` (" + TimedPair.BAD_ARG + ")"));
        holds("FULL", readme.contains("`FULL` (" + TimedPair.FULL + ")"));
        holds("NONE", readme.contains("`NONE` (" + TimedPair.NONE + ")"));
    }

    private static void namesEveryTest(String readme) throws IOException {
        Set<String> named = new TreeSet<>();
        Matcher name = Pattern.compile("`(\\w+Test)`").matcher(readme);
        while (name.find()) {
            named.add(name.group(1));
        }
        holds("tests " + named, named.equals(classesIn("src/test/java", "Test")));
    }

    /** The names of the classes in this folder that end like this. */
    private static TreeSet<String> classesIn(String folder, String end) throws IOException {
        try (Stream<Path> files = Files.list(Path.of(folder))) {
            return files.map(file -> file.getFileName().toString())
                .filter(file -> file.endsWith(end + ".java"))
                .map(file -> file.replace(".java", ""))
                .collect(Collectors.toCollection(TreeSet::new));
        }
    }

    private static List<Block> blocksOf(String readme) {
        List<Block> blocks = new ArrayList<>();
        Matcher block = Pattern.compile("^```(\\w+)\\n(.*?)^```$", Pattern.MULTILINE | Pattern.DOTALL).matcher(readme);
        while (block.find()) {
            blocks.add(new Block(block.group(1), block.group(2)));
        }
        return blocks;
    }

    /** It is not run here, for this test is one of those that it runs. */
    private static void saysHowToRunAllTests(List<Block> blocks) {
        holds("how to run all tests", blocks.contains(new Block("sh", ALL_TESTS)));
        holds(".ci/run can be run", Files.isExecutable(Path.of(".ci/run")));
    }

    /** A copy, so that what the commands write does not come into the checkout. */
    private static Path checkoutIn(Path top, List<Block> blocks) throws IOException {
        Path checkout = top.resolve("main");
        copy(Path.of("src"), checkout.resolve("src"));
        copy(Path.of("../shared/tests").toRealPath(), top.resolve("shared/tests"));
        for (Block block : blocks) {
            if (block.kind.equals("java")) {
                Files.writeString(checkout.resolve("Example.java"), block.text);
            }
        }
        return checkout;
    }

    private static void copy(Path from, Path to) throws IOException {
        try (Stream<Path> files = Files.walk(from)) {
            for (Path file : files.filter(Files::isRegularFile).toList()) {
                Path target = to.resolve(from.relativize(file));
                Files.createDirectories(target.getParent());
                Files.copy(file, target);
            }
        }
    }

    private static void remove(Path top) throws IOException {
        try (Stream<Path> files = Files.walk(top)) {
            for (Path file : files.sorted(Comparator.reverseOrder()).toList()) {
                Files.delete(file);
            }
        }
    }

    private static void commandsRunAsWritten(List<Block> blocks, Path checkout) throws IOException, InterruptedException {
        String name = classesIn("../shared/tests", "").first();
        int run = 0;
        for (int i = 0; i < blocks.size(); i++) {
            Block block = blocks.get(i);
            if (block.kind.equals("sh") && !block.text.equals(ALL_TESTS)) {
                String printed = outputOf(block.text.replace("NAME", name), checkout);
                boolean told = i + 1 < blocks.size() && blocks.get(i + 1).kind.equals("text");
                holds(block.text + "printed\n" + printed + "which", !told || printed.equals(blocks.get(i + 1).text));
                run++;
            }
        }
        Check.due("README.md, commands to use the class, to run one test of each kind", run, 3);
    }

    private static String outputOf(String commands, Path checkout) throws IOException, InterruptedException {
        Process process = new ProcessBuilder("sh", "-e", "-c", commands)
            .directory(checkout.toFile()).redirectError(ProcessBuilder.Redirect.INHERIT).start();
        String printed = new String(process.getInputStream().readAllBytes());
        Check.due("README.md, " + commands + "exit code", process.waitFor(), 0);
        return printed;
    }
}
