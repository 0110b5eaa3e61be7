import java.io.IOException;
import java.lang.reflect.InvocationTargetException;
import java.lang.reflect.Method;
import java.nio.file.Files;
import java.nio.file.Path;
import java.util.ArrayList;
import java.util.List;
import java.util.regex.Matcher;
import java.util.regex.Pattern;

/** Makes the calls that stand in README.md; each must answer what stands behind it. */
public final class ReadmeTest {
  private static final String NEW_GAME = "ForAllGame game = new ForAllGame();";
  private static final Pattern WRITING = Pattern.compile(
      "for \\(char sign : \"(.*)\"\\.toCharArray\\(\\)\\) game\\.append\\(sign\\);");
  private static final Pattern CALL =
      Pattern.compile("game\\.(\\w+)\\((.*)\\); +// ([-.\\w]+): .*");
  /** Fewer calls than these would mean that the examples are not found any more. */
  private static final int LEAST_CALLS = 25;

  private static int wrong = 0;
  private static int calls = 0;
  private static ForAllGame game = new ForAllGame();

  public static void main(String[] args) throws IOException, IllegalAccessException {
    boolean isCode = false;
    for (String line : Files.readAllLines(Path.of("README.md"))) {
      if (line.startsWith("```")) {
        isCode = line.equals("```java");
      } else if (isCode) {
        obey(line);
      }
    }
    if (calls < LEAST_CALLS) {
      fault("just " + calls + " calls");
    }
    System.out.println(wrong == 0 ? calls + " calls answer as README.md says" : wrong + " faults");
    if (wrong != 0) {
      System.exit(1);
    }
  }

  private static void fault(String what) {
    wrong++;
    System.out.println("README.md: " + what);
  }

  private static void obey(String line) throws IllegalAccessException {
    Matcher writing = WRITING.matcher(line);
    Matcher call = CALL.matcher(line);
    if (line.equals(NEW_GAME)) {
      game = new ForAllGame();
    } else if (writing.matches()) {
      for (char sign : writing.group(1).toCharArray()) {
        game.append(sign);
      }
    } else if (call.matches()) {
      calls++;
      String got = answer(call.group(1), call.group(2));
      if (!got.equals(call.group(3))) {
        fault("\"" + line + "\" answered " + got);
      }
    } else {
      fault("\"" + line + "\" is no call with its answer");
    }
  }

  private static String answer(String name, String written) throws IllegalAccessException {
    Object[] arguments = arguments(written);
    for (Method method : ForAllGame.class.getMethods()) {
      boolean isIt = method.getName().equals(name)
          && method.getParameterCount() == arguments.length;
      if (isIt) {
        try {
          return String.valueOf(method.invoke(game, arguments));
        } catch (InvocationTargetException e) {
          return e.getCause().getClass().getSimpleName();
        }
      }
    }
    return "no such method";
  }

  private static Object[] arguments(String written) {
    List<Object> arguments = new ArrayList<>();
    for (String one : written.isEmpty() ? new String[0] : written.split(", ")) {
      boolean isNumber = one.matches("-?[0-9]+");
      arguments.add(isNumber ? (Object) Integer.valueOf(one) : (Object) Boolean.valueOf(one));
    }
    return arguments.toArray();
  }
}
