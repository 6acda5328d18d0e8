import java.io.File;
import java.io.IOException;
import java.nio.file.Files;
import java.nio.file.Path;
import java.util.ArrayList;
import java.util.Comparator;
import java.util.List;
import java.util.regex.Matcher;
import java.util.regex.Pattern;
import java.util.stream.Stream;

/** README.md holds as it is written: its program gives the answers that it tells, and its commands can be done. */
public final class ReadmeTest {
    private static final String PROGRAM = "Sofa.java", RUN = "java -cp out Sofa";

    private final Due due = new Due();
    private final String text;
    private final Path room;

    private ReadmeTest(Path room) throws IOException {
        this.room = room;
        text = Files.readString(Path.of("README.md"));
    }

    public static void main(String[] args) throws IOException, InterruptedException {
        Path room = Files.createTempDirectory("readme");
        ReadmeTest test = new ReadmeTest(room);
        try {
            test.commands();
            test.answersOfModel();
            test.files();
        } finally {
            remove(room);
        }
        test.due.end();
    }

    private static void remove(Path folder) throws IOException {
        try (Stream<Path> all = Files.walk(folder)) {
            all.sorted(Comparator.reverseOrder()).map(Path::toFile).forEach(File::delete);
        }
    }

    /** Each command, but that what is made by hand or by the commands stands in a room of its own. */
    private void commands() throws IOException, InterruptedException {
        due.about("the commands of README.md");
        Files.writeString(room.resolve(PROGRAM), blocks("java").get(0));
        int ran = 0;
        for (String block : blocks("sh")) {
            for (String line : block.split("\n")) {
                if (line.equals(".ci/run")) {
                    due.holds(line + " can be run", Files.isExecutable(Path.of(line)));
                } else if (line.equals("mkdir -p out")) {
                    Files.createDirectories(room.resolve("out"));
                } else {
                    due.holds(line + " is javac or java", line.startsWith("javac ") || line.startsWith("java "));
                    String said = done(line);
                    if (line.equals(RUN)) due.holds("what it prints: " + said, said.equals(blocks("text").get(0)));
                    ran++;
                }
            }
        }
        due.holds("programs that were run: " + ran, ran >= 8);
    }

    /** The answers are those of the document, too, as the Model reads it. */
    private void answersOfModel() throws IOException, InterruptedException {
        due.about("the program of README.md with the Model");
        Path folder = Files.createDirectories(room.resolve("model"));
        Files.writeString(folder.resolve(PROGRAM), blocks("java").get(0).replace("SofaStair", "Model"));
        done("javac -d " + folder + " src/test/java/Model.java " + folder.resolve(PROGRAM));
        due.holds("the same answers", done("java -cp " + folder + " Sofa").equals(blocks("text").get(0)));
    }

    private void files() {
        due.about("files that README.md names");
        Matcher m = Pattern.compile("(?:\\.\\./shared|src|\\.ci)/[\\w/.]*\\w").matcher(text);
        int found = 0;
        for (; m.find(); found++) due.holds(m.group(), new File(m.group()).exists());
        due.holds("some are named", found > 8);
    }

    private List<String> blocks(String language) {
        List<String> blocks = new ArrayList<>();
        Matcher m = Pattern.compile("(?s)```" + language + "\n(.*?)```").matcher(text);
        while (m.find()) blocks.add(m.group(1));
        due.holds("a block of " + language, !blocks.isEmpty());
        return blocks;
    }

    private String done(String line) throws IOException, InterruptedException {
        List<String> words = new ArrayList<>();
        for (String word : line.split(" ")) {
            boolean own = word.equals("out") || word.equals(PROGRAM);
            words.add(own ? room.resolve(word).toString() : word);
        }
        Process process = new ProcessBuilder(words).redirectErrorStream(true).start();
        String said = new String(process.getInputStream().readAllBytes());
        int ended = process.waitFor();
        due.is(line, ended, 0);
        if (ended != 0) System.out.println(said);
        return said;
    }
}
