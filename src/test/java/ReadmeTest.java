import java.nio.file.Files;
import java.nio.file.Path;
import java.util.regex.Matcher;
import java.util.regex.Pattern;

/** Each call of the example in README.md answers what stands behind it. */
public final class ReadmeTest {
  private static final Pattern MADE = Pattern.compile("TrimChecker x = new TrimChecker\\((\\d+), (\\d+), (\\d+)\\);.*");
  private static final Pattern CALL = Pattern.compile("x\\.(\\w+)\\((.*)\\); +// ([-\\w]+)(:.*)?");
  private static final int LEAST_CALLS = 40;

  public static void main(String[] args) throws Exception {
    String readme = Files.readString(Path.of("README.md"));
    String example = readme.split("```java\n")[1].split("```")[0];
    Run run = null;
    int calls = 0;
    for (String line : example.split("\n")) {
      Matcher made = MADE.matcher(line);
      Matcher call = CALL.matcher(line);
      if (made.matches()) {
        run = new Run("README.md", number(made.group(1)), number(made.group(2)), number(made.group(3)));
      } else if (call.matches()) {
        run.due(asText(call.group(1), call.group(2)), number(call.group(3)));
        calls++;
      } else if (!line.isEmpty() && !line.startsWith("//")) {
        Run.tellWrong("README.md has a line that is no call with its answer: " + line);
      }
    }
    if (calls < LEAST_CALLS) {
      Run.tellWrong("README.md has only " + calls + " calls");
    }
    Run.end();
  }

  private static String asText(String method, String arguments) throws ReflectiveOperationException {
    String text = method;
    if (!arguments.isEmpty()) {
      for (String argument : arguments.split(", ")) {
        text += " " + number(argument);
      }
    }
    return text;
  }

  private static int number(String word) throws ReflectiveOperationException {
    String name = word.replace("TrimChecker.", "");
    if (name.matches("[A-Z_]+")) {
      return TrimChecker.class.getField(name).getInt(null);
    }
    if (name.equals("true") || name.equals("false")) {
      return name.equals("true") ? 1 : 0;
    }
    return Integer.parseInt(name);
  }
}
