import java.nio.file.Files;
import java.nio.file.Path;

/** The example of README.md: its calls, in its order, answer what it says that they answer. */
public final class ReadmeTests {
  private static String[] example = {};
  private static int next = 0;
  private static int wrong = 0;

  public static void main(String[] args) throws Exception {
    example = firstExample(Files.readString(Path.of("README.md")));
    SliceLoom loom = new SliceLoom();
    stands("SliceLoom loom = new SliceLoom();", "");
    int p = loom.program();
    answers("int p = loom.program();", p);
    answers("loom.line(p, 0, 0, 256 * 153);", loom.line(p, 0, 0, 256 * 153));
    answers("loom.line(p, 0, 1, 256 * 157);", loom.line(p, 0, 1, 256 * 157));
    answers("loom.line(p, 2, 0, 65536 + 256 * 0 + 151);", loom.line(p, 2, 0, 65536 + 256 * 0 + 151));
    answers("loom.run(p, 100);", loom.run(p, 100));
    answers("loom.told(0);", loom.told(0));
    answers("loom.hangs(p, 2, 0);", loom.hangs(p, 2, 0));
    answers("loom.slice(p, 2);", loom.slice(p, 2));
    answers("loom.has(1);", loom.has(1));
    int q = loom.cut(p, 2);
    answers("int q = loom.cut(p, 2);", q);
    answers("loom.became(2);", loom.became(2));
    answers("loom.beside(p, 2, q, 1, 100);", loom.beside(p, 2, q, 1, 100));
    answers("loom.step(1);", loom.step(1));
    answers("loom.trace(1);", loom.trace(1));
    answers("loom.program();", loom.program());
    answers("loom.line(2, 7, 1, 0);", loom.line(2, 7, 1, 0));
    if (next != example.length) {
      wrong++;
      System.out.println("README.md has " + example.length + " lines in its example, " + next + " were asked for");
    }
    System.out.println(next + " lines of the example asked for, " + wrong + " not as due");
    if (wrong != 0) {
      System.exit(1);
    }
  }

  private static String[] firstExample(String readme) {
    String fence = "```java\n";
    int from = readme.indexOf(fence) + fence.length();
    int to = readme.indexOf("\n```", from);
    return from < fence.length() || to < 0 ? new String[0] : readme.substring(from, to).split("\n");
  }

  private static void answers(String code, int answer) {
    stands(code, "// " + answer + ":");
  }

  /** The next line of the example is this code, with a comment that begins so. */
  private static void stands(String code, String comment) {
    String line = next < example.length ? example[next] : "";
    next++;
    boolean isCode = line.startsWith(code);
    String rest = isCode ? line.substring(code.length()).trim() : "";
    boolean isSaid = comment.isEmpty() ? rest.isEmpty() : rest.startsWith(comment);
    if (!isCode || !isSaid) {
      wrong++;
      System.out.println("README.md has '" + line + "', due is '" + code + " " + comment + "'");
    }
  }
}
