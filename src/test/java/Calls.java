import java.lang.reflect.Method;
import java.util.HashMap;
import java.util.Map;

/** Makes a call that is written as text, such as "lemma 1 -2"; places left out at the end are 0. */
final class Calls {
  private static final Map<String, Method> found = new HashMap<>();

  private Calls() {}

  static int answer(Object object, String call) {
    String[] parts = call.split(" ");
    Class<?> type = object.getClass();
    Method method = found.computeIfAbsent(type.getName() + " " + parts[0], key -> methodNamed(type, parts[0]));
    Object[] arguments = new Object[method.getParameterCount()];
    if (parts.length - 1 > arguments.length) {
      throw new IllegalArgumentException("too many places: " + call);
    }
    for (int i = 0; i < arguments.length; i++) {
      arguments[i] = i + 1 < parts.length ? Integer.parseInt(parts[i + 1]) : 0;
    }
    try {
      Object answer = method.invoke(object, arguments);
      return answer instanceof Boolean ? ((Boolean) answer ? 1 : 0) : (Integer) answer;
    } catch (ReflectiveOperationException e) {
      throw new IllegalStateException("the call threw: " + call, e);
    }
  }

  private static Method methodNamed(Class<?> type, String name) {
    for (Method method : type.getDeclaredMethods()) {
      if (method.getName().equals(name)) {
        return method;
      }
    }
    throw new IllegalArgumentException("no method " + name);
  }

  /** Everything that the object tells without being changed. */
  static String snapshot(Object object) {
    StringBuilder told = new StringBuilder();
    tell(told, object, "phase");
    tell(told, object, "cursor");
    tell(told, object, "conflict");
    for (int id = -2; id <= 33; id++) {
      tell(told, object, "kind " + id);
      tell(told, object, "alive " + id);
      tell(told, object, "marked " + id);
      for (int slot = -1; slot <= 4; slot++) {
        tell(told, object, "word " + id + " " + slot);
      }
    }
    for (int k = -1; k <= 13; k++) {
      tell(told, object, "trimmed " + k);
    }
    for (int view = -1; view <= 3; view++) {
      tell(told, object, "forward " + view);
      for (int assignment = -1; assignment < 16; assignment++) {
        tell(told, object, "holds " + view + " " + assignment);
      }
    }
    return told.toString();
  }

  private static void tell(StringBuilder told, Object object, String call) {
    told.append(call).append(" = ").append(answer(object, call)).append('\n');
  }

  /** The first line in which two snapshots differ, but for lines that begin with one of the words given. */
  static String difference(String one, String other, String... exceptions) {
    String[] a = one.split("\n");
    String[] b = other.split("\n");
    for (int i = 0; i < a.length; i++) {
      if (!a[i].equals(b[i]) && !beginsWithOne(a[i], exceptions)) {
        return a[i] + " against " + b[i];
      }
    }
    return "";
  }

  private static boolean beginsWithOne(String line, String[] words) {
    for (String word : words) {
      if (line.startsWith(word + " ")) {
        return true;
      }
    }
    return false;
  }
}
