import java.io.IOException;
import java.nio.file.Files;
import java.nio.file.Path;

/** What README.md tells of the class's use: its example answers as it says there. */
public final class ReadmeTest {
    private static final String TEXT = "func twice(n:int):int{return 2*n;}test small{check twice(2)==4;}";

    public static void main(String[] args) throws IOException {
        SuiteKeeper keeper = new SuiteKeeper();
        for (int k = 0; k < TEXT.length(); k++) {
            keeper.put(TEXT.charAt(k));
        }
        Due.is("load()", keeper.load(), SuiteKeeper.NONE);
        Due.is("why(0)", keeper.why(0), 1);
        Due.is("run(2, 1000)", keeper.run(2, 1000), 1);
        Due.is("verdict(0)", keeper.verdict(0), 0);
        Due.is("about(5)", keeper.about(5), 0);
        example();
        tests();
        Due.done("ReadmeTest");
    }

    /** The lines that are tried above are those that stand there. */
    private static void example() throws IOException {
        String readme = Files.readString(Path.of("README.md"));
        String[] lines = {
            "String text = \"" + TEXT + "\";", "keeper.put(text.charAt(k));", "keeper.load();", "keeper.why(0);",
            "keeper.run(2, 1000);", "keeper.verdict(0);", "keeper.about(5);"
        };
        int behind = 0;
        for (String line : lines) {
            int at = readme.indexOf(line, behind);
            Due.is(line + " stands in README.md", at >= behind, true);
            behind = Math.max(behind, at);
        }
    }

    /** Tests that README.md names are there. */
    private static void tests() throws IOException {
        String readme = Files.readString(Path.of("README.md"));
        for (String part : readme.split("`")) {
            if (part.matches("[A-Z][A-Za-z]*(Test|Edges)")) {
                Path test = Path.of("src/test/java", part + ".java");
                Due.is(test + " is there", Files.exists(test), true);
            }
        }
    }
}
