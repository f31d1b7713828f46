import java.io.IOException;
import java.nio.file.Files;
import java.nio.file.Path;
import java.util.List;

/**
 * The example of README.md is compiled and run with the commands that stand there, and prints what
 * stands there.
 * Arguments: README.md, the program's source file, and a folder that does not exist yet.
 */
public final class ReadmeTest {
  private ReadmeTest() {}

  /** The text of the one block that is fenced with a language. */
  private static String block(String readme, String language) {
    String fence = "\n```" + language + "\n";
    int start = readme.indexOf(fence);
    if (start < 0 || start != readme.lastIndexOf(fence)) {
      throw new IllegalStateException("README.md does not have one block of " + language);
    }
    int text = start + fence.length();
    return readme.substring(text, readme.indexOf("```\n", text));
  }

  private static String outputOf(String command, Path folder)
      throws IOException, InterruptedException {
    Process process = new ProcessBuilder(List.of(command.split(" "))).directory(folder.toFile())
        .redirectError(ProcessBuilder.Redirect.INHERIT).start();
    String output = new String(process.getInputStream().readAllBytes());
    if (process.waitFor() != 0) {
      throw new IllegalStateException(command + " failed");
    }
    return output;
  }

  public static void main(String[] args) throws IOException, InterruptedException {
    String readme = Files.readString(Path.of(args[0]));
    Path folder = Files.createDirectory(Path.of(args[2]));
    Files.copy(Path.of(args[1]), folder.resolve("KnotLaboratory.java"));
    Files.writeString(folder.resolve("Example.java"), block(readme, "java"));
    StringBuilder got = new StringBuilder();
    for (String command : block(readme, "sh").split("\n")) {
      got.append(outputOf(command, folder));
    }
    String due = block(readme, "text");
    if (!got.toString().equals(due)) {
      System.out.println("the example prints\n" + got + "README.md has\n" + due);
      System.exit(1);
    }
    System.out.println("the example prints what README.md says");
  }
}
