import java.io.File;
import java.io.IOException;
import java.nio.file.Files;
import java.nio.file.Path;
import java.util.ArrayList;
import java.util.List;

// The example of README.md is a whole program, and each line it prints begins the comment beside the print.
public final class ReadmeTest {
    private static List<String> example() throws IOException {
        List<String> lines = Files.readAllLines(Path.of("README.md"));
        int begin = lines.indexOf("```java") + 1;
        int end = begin + lines.subList(begin, lines.size()).indexOf("```");
        return lines.subList(begin, end);
    }

    private static List<String> answersDue(List<String> example) {
        List<String> due = new ArrayList<>();
        for (String line : example) {
            if (line.contains("println")) {
                String comment = line.substring(line.indexOf("//") + 2).strip();
                due.add(comment.split(":")[0]);
            }
        }
        return due;
    }

    private static List<String> answersGiven(List<String> example) throws IOException, InterruptedException {
        Path source = Files.createTempDirectory("readme").resolve("Example.java");
        Files.write(source, example);
        String java = Path.of(System.getProperty("java.home"), "bin", "java").toString();
        String classes = System.getProperty("java.class.path");
        Process run = new ProcessBuilder(java, "-cp", classes, source.toString()).redirectErrorStream(true).start();
        List<String> given = new String(run.getInputStream().readAllBytes()).lines().toList();
        run.waitFor();
        delete(source.toFile());
        return given;
    }

    private static void delete(File source) {
        source.delete();
        source.getParentFile().delete();
    }

    public static void main(String[] args) throws IOException, InterruptedException {
        List<String> example = example();
        List<String> due = answersDue(example);
        List<String> given = answersGiven(example);
        if (due.isEmpty() || !given.equals(due)) {
            System.out.println("the example of README.md answers " + given + ", due is " + due);
            System.exit(1);
        }
        System.out.println("the example of README.md answers what it says");
    }
}
