import java.io.IOException;
import java.lang.reflect.Constructor;
import java.lang.reflect.Field;
import java.lang.reflect.Method;
import java.lang.reflect.Modifier;
import java.nio.file.Files;
import java.nio.file.Path;
import java.util.Arrays;
import java.util.HashSet;
import java.util.Set;
import java.util.TreeSet;
import java.util.regex.Matcher;
import java.util.regex.Pattern;

/** The public face as the document tells it, and what LANGUAGE.md leaves out of the source. */
public final class FaceTest {
  private static final String[] METHODS = {
    "int about(int)", "int add(int,int,int)", "int alloc(int)", "int cell(int)", "int check(int)",
    "int clear()", "int compare(int,int)", "int divmod(int,int,int,int)", "boolean end(int)",
    "int fault()", "int feed(int,int,int,int,int)", "int gcd(int,int,int)", "int jacobi(int,int)",
    "int limb(int,int)", "int look(int,int)", "int mul(int,int,int)", "int number(int,int)",
    "int out(int)", "int powmod(int,int,int,int)", "int prove(int)", "int release(int)",
    "int resize(int,int)", "int root(int,int)", "int setLimb(int,int,int)", "int shift(int,int,int)",
    "int sub(int,int,int)", "int text(int,int)", "int told(int)", "int word(int)",
  };

  public static void main(String[] args) throws IOException {
    Checks.due("NONE", NumberArena.NONE, -1);
    Checks.due("final and public", NumberArena.class.getModifiers(), Modifier.PUBLIC | Modifier.FINAL);
    Checks.due("methods", publicMethods(), new TreeSet<>(Arrays.asList(METHODS)));
    Checks.due("fields", publicFields(), "[public static final int NumberArena.NONE]");
    Constructor<?>[] made = NumberArena.class.getDeclaredConstructors();
    Checks.due("constructors", Arrays.toString(made), "[public NumberArena(int,int,int)]");
    classesInside();
    source(Files.readString(Path.of("src/main/java/NumberArena.java")));
    Checks.finish();
  }

  private static String parameters(Method method) {
    StringBuilder text = new StringBuilder();
    for (Class<?> type : method.getParameterTypes()) {
      text.append(text.length() == 0 ? "" : ",").append(type.getSimpleName());
    }
    return "(" + text + ")";
  }

  private static Set<String> publicMethods() {
    Set<String> found = new TreeSet<>();
    Set<String> names = new HashSet<>();
    for (Method method : NumberArena.class.getDeclaredMethods()) {
      if (!Modifier.isPrivate(method.getModifiers())) {
        Checks.due(method + " is public alone", method.getModifiers(), Modifier.PUBLIC);
        found.add(method.getReturnType() + " " + method.getName() + parameters(method));
        names.add(method.getName());
      }
    }
    for (Method method : NumberArena.class.getDeclaredMethods()) {
      if (Modifier.isPrivate(method.getModifiers())) {
        Checks.due(method + " has a public one's name", names.contains(method.getName()), false);
      }
    }
    return found;
  }

  private static String publicFields() {
    Set<String> found = new TreeSet<>();
    for (Field field : NumberArena.class.getDeclaredFields()) {
      if (!Modifier.isPrivate(field.getModifiers())) {
        found.add(field.toString());
      }
    }
    return found.toString();
  }

  private static void classesInside() {
    Class<?>[] inside = NumberArena.class.getDeclaredClasses();
    Checks.due("some twelve classes", inside.length < 12, true);
    for (Class<?> type : inside) {
      Checks.due(type + " is static", Modifier.isStatic(type.getModifiers()), true);
      Checks.due(type + " is public", Modifier.isPublic(type.getModifiers()), false);
      Checks.due(type + " has few fields", type.getDeclaredFields().length <= 20, true);
    }
    Checks.due("anonymous or local classes", NumberArena.class.getNestMembers().length, inside.length + 1);
  }

  private static void source(String text) {
    String code = text.replaceAll("(?s)/\\*.*?\\*/", "").replaceAll("//[^\n]*", "");
    String[] words = {
      "throw", "throws", "try", "catch", "synchronized", "assert", "package", "Object", "hashCode",
      "volatile", "native", "Thread", "Random", "currentTimeMillis", "nanoTime", "var",
    };
    for (String word : words) {
      Matcher matcher = Pattern.compile("\\b" + word + "\\b").matcher(code);
      Checks.due("'" + word + "' in the source", matcher.find(), false);
    }
    for (String sign : new String[] {"->", "::", "Exact(", "\""}) {
      Checks.due("'" + sign + "' in the source", code.contains(sign), false);
    }
    Matcher imports = Pattern.compile("import ([^;]*);").matcher(code);
    while (imports.find()) {
      Checks.due("import", imports.group(1), "java.util.Arrays");
    }
  }
}
