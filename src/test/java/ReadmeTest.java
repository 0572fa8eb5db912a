import java.io.File;
import java.io.IOException;
import java.lang.reflect.Method;
import java.lang.reflect.Modifier;
import java.nio.charset.StandardCharsets;
import java.nio.file.Files;
import java.nio.file.LinkOption;
import java.nio.file.Path;
import java.util.ArrayList;
import java.util.List;
import java.util.Set;
import java.util.TreeSet;
import java.util.regex.Matcher;
import java.util.regex.Pattern;

/** README.md by doing what it says, in a folder of its own that has the sources and the shared tests where it names them. */
public final class ReadmeTest {
    /** Running it here would run this test again, without an end. */
    private static final String ALL_TESTS = ".ci/run";

    private static int wrong = 0;

    private static void check(boolean holds, String what) {
        if (!holds) {
            wrong++;
            System.out.println("README.md: " + what);
        }
    }

    /** The blocks of one language, in their order. */
    private static List<String> blocks(String page, String language) {
        List<String> all = new ArrayList<>();
        Matcher m = Pattern.compile("(?m)^```" + language + "\n(.*?)^```$", Pattern.DOTALL).matcher(page);
        while (m.find()) all.add(m.group(1));
        return all;
    }

    private static void lookAtCalls(String page) {
        Set<String> told = new TreeSet<>();
        Matcher m = Pattern.compile("`(\\w+)\\(([\\w, ]*)\\)`").matcher(page);
        while (m.find()) {
            int size = m.group(2).isEmpty() ? 0 : m.group(2).split(",").length;
            told.add(m.group(1) + " of " + size);
        }
        Set<String> face = new TreeSet<>();
        for (Method c : CubeFolk.class.getDeclaredMethods()) {
            if (Modifier.isPublic(c.getModifiers())) face.add(c.getName() + " of " + c.getParameterCount());
        }
        check(told.equals(face), "the calls told are " + told);
    }

    /** Each test has a line; each name that ends so is a test. */
    private static void lookAtTests(String page) {
        Set<String> told = new TreeSet<>();
        Matcher m = Pattern.compile("`(\\w+Test)`").matcher(page);
        while (m.find()) told.add(m.group(1));
        Set<String> there = new TreeSet<>();
        for (String file : new File("src/test/java").list()) {
            if (file.endsWith("Test.java")) there.add(file.substring(0, file.length() - 5));
        }
        check(told.equals(there), "the tests told are " + told);
    }

    /** A folder beside a folder shared, as the project's own stands. */
    private static Path folder(String example) throws IOException {
        Path above = Files.createTempDirectory("readme");
        Path shared = Files.createDirectories(above.resolve("shared"));
        Path main = Files.createDirectories(above.resolve("main"));
        Files.createSymbolicLink(shared.resolve("tests"), Path.of("../shared/tests").toRealPath());
        Files.createSymbolicLink(main.resolve("src"), Path.of("src").toRealPath());
        Files.writeString(main.resolve("Example.java"), example);
        return main;
    }

    private static void remove(Path at) throws IOException {
        if (Files.isDirectory(at, LinkOption.NOFOLLOW_LINKS)) {
            for (File inside : at.toFile().listFiles()) remove(inside.toPath());
        }
        Files.delete(at);
    }

    /** What a block of commands prints. */
    private static String run(String commands, Path in) throws IOException, InterruptedException {
        Process p = new ProcessBuilder("sh", "-e", "-c", commands).directory(in.toFile()).redirectErrorStream(true).start();
        p.getOutputStream().close();
        String printed = new String(p.getInputStream().readAllBytes(), StandardCharsets.UTF_8);
        check(p.waitFor() == 0, "this fails:\n" + commands + printed);
        return printed;
    }

    private static void doIt(String page) throws IOException, InterruptedException {
        List<String> programs = blocks(page, "java");
        List<String> commands = blocks(page, "sh");
        List<String> printed = blocks(page, "text");
        check(programs.size() == 1 && printed.size() == 1, "one program, and what it prints");
        check(commands.remove(ALL_TESTS + "\n") && Files.isExecutable(Path.of(ALL_TESTS)), "how all tests are run");
        check(!commands.isEmpty(), "how the example is run");
        if (wrong != 0) return;
        Path main = folder(programs.get(0));
        try {
            String got = run(commands.get(0), main);
            check(got.equals(printed.get(0)), "the example prints\n" + got);
            for (String others : commands.subList(1, commands.size())) run(others, main);
        } finally {
            remove(main.getParent());
        }
    }

    public static void main(String[] args) throws IOException, InterruptedException {
        String page = Files.readString(Path.of("README.md"));
        lookAtCalls(page);
        lookAtTests(page);
        doIt(page);
        System.out.println(wrong == 0 ? "README.md is as one finds it" : wrong + " faults of README.md");
        if (wrong != 0) System.exit(1);
    }
}
