import java.io.IOException;
import java.lang.reflect.Method;
import java.lang.reflect.Modifier;
import java.nio.file.Files;
import java.nio.file.Path;
import java.util.HashMap;
import java.util.Map;
import java.util.regex.Matcher;
import java.util.regex.Pattern;

/** The examples in README.md, read there and made: each call answers what stands behind it. */
public final class ReadmeTest {
  private static final Pattern BLOCK = Pattern.compile("(?s)```java\n(.*?)```");
  private static final Pattern MADE = Pattern.compile("NumberArena x = new NumberArena\\(([^)]*)\\);.*");
  private static final Pattern CALL =
      Pattern.compile("(?:int (\\w+) = )?x\\.(\\w+)\\(([^)]*)\\); *// (-?\\d+|true|false)(?::.*)?");
  private static final int LOWEST_CODE = -9;

  private NumberArena x;
  private final Map<String, Integer> variables = new HashMap<>();

  public static void main(String[] args) throws IOException, ReflectiveOperationException {
    String readme = Files.readString(Path.of("README.md"));
    Matcher block = BLOCK.matcher(readme);
    int blocks = 0;
    while (block.find()) {
      ReadmeTest example = new ReadmeTest();
      for (String line : block.group(1).split("\n")) {
        example.make(line);
      }
      blocks++;
    }
    Checks.due("README.md has examples", blocks > 0, true);
    namesAllCalls(readme);
    for (int code = -1; code >= LOWEST_CODE; code--) {
      Checks.due("README.md tells the answer " + code, readme.contains("\n| " + code + " |"), true);
    }
    Checks.finish();
  }

  private static void namesAllCalls(String readme) {
    for (Method method : NumberArena.class.getDeclaredMethods()) {
      if (Modifier.isPublic(method.getModifiers())) {
        String name = "`" + method.getName() + "`";
        Checks.due("README.md tells of " + name, readme.contains(name), true);
      }
    }
  }

  private void make(String line) throws ReflectiveOperationException {
    Matcher made = MADE.matcher(line);
    Matcher call = CALL.matcher(line);
    if (made.matches()) {
      int[] sizes = values(made.group(1));
      x = new NumberArena(sizes[0], sizes[1], sizes[2]);
    } else if (call.matches()) {
      Object answer = answerOf(call.group(2), values(call.group(3)));
      Checks.due("README.md: " + line, answer.toString(), call.group(4));
      if (call.group(1) != null) {
        variables.put(call.group(1), (Integer) answer);
      }
    } else {
      Checks.due("README.md: '" + line + "' is a call with its answer", false, true);
    }
  }

  private Object answerOf(String name, int[] values) throws ReflectiveOperationException {
    Class<?>[] types = new Class<?>[values.length];
    Object[] boxed = new Object[values.length];
    for (int i = 0; i < values.length; i++) {
      types[i] = int.class;
      boxed[i] = values[i];
    }
    return NumberArena.class.getMethod(name, types).invoke(x, boxed);
  }

  private int[] values(String list) {
    String[] parts = list.isBlank() ? new String[0] : list.split(", *");
    int[] values = new int[parts.length];
    for (int i = 0; i < parts.length; i++) {
      Integer variable = variables.get(parts[i]);
      values[i] = variable != null ? variable : Integer.decode(parts[i]);
    }
    return values;
  }
}
