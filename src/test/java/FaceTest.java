import java.lang.reflect.Constructor;
import java.lang.reflect.Field;
import java.lang.reflect.Method;
import java.lang.reflect.Modifier;
import java.util.Map;
import java.util.Set;
import java.util.TreeMap;
import java.util.TreeSet;

/** The public face of the document, and what of LANGUAGE.md the compiled class shows. */
public final class FaceTest {
  private static final String[] CONSTANTS = {
    "BUILDING 0", "CHECKING 1", "ACCEPTED 2", "REJECTED 3",
    "NONE -1", "BAD -2", "FULL -3", "NO_CONFLICT -4", "WRONG_PHASE -5",
    "REVIVED 1", "SKIPPED 2", "BY_RUP 3", "BY_RAT 4", "NOT_PASSED 5",
    "WHOLE 0", "TRIMMED 1", "CORE 2",
    "NOTHING 0", "AXIOM 1", "LEMMA 2", "DELETION 3",
    "FAILS_AT 100"
  };
  private static final String[] METHODS = {
    "int axiom 4", "int lemma 4", "int delete 1", "int seal 0", "int back 0", "int forward 1", "int trimmed 1",
    "int rewind 1", "int phase 0", "int cursor 0", "int conflict 0", "boolean alive 1", "boolean marked 1",
    "int kind 1", "int word 2", "boolean holds 2"
  };

  public static void main(String[] args) throws Exception {
    checkClass();
    checkConstants();
    checkMethods();
    Run.end();
  }

  private static void checkClass() {
    int modifiers = TrimChecker.class.getModifiers();
    expect(Modifier.isPublic(modifiers) && Modifier.isFinal(modifiers), "the class is public and final");
    expect(TrimChecker.class.getDeclaredClasses().length == 0, "no nested class");
    Constructor<?>[] constructors = TrimChecker.class.getDeclaredConstructors();
    expect(constructors.length == 1 && Modifier.isPublic(constructors[0].getModifiers()), "one public constructor");
    expect(constructors[0].getParameterCount() == 3 && allInts(constructors[0].getParameterTypes()), "of three ints");
  }

  private static void checkConstants() throws Exception {
    Map<String, String> wanted = new TreeMap<>();
    for (String constant : CONSTANTS) {
      wanted.put(constant.split(" ")[0], constant);
    }
    int instanceFields = 0;
    for (Field field : TrimChecker.class.getDeclaredFields()) {
      int modifiers = field.getModifiers();
      if (!Modifier.isStatic(modifiers)) {
        instanceFields++;
        expect(Modifier.isPrivate(modifiers), "private: " + field);
      } else if (Modifier.isPrivate(modifiers)) {
        expect(Modifier.isFinal(modifiers) && field.getType() == int.class, "a constant of int: " + field);
      } else {
        expect(Modifier.isPublic(modifiers) && Modifier.isFinal(modifiers) && field.getType() == int.class,
            "public static final int: " + field);
        String told = field.getName() + " " + field.getInt(null);
        expect(told.equals(wanted.remove(field.getName())), "as in the document: " + told);
      }
    }
    expect(wanted.isEmpty(), "constants are there: " + wanted);
    expect(instanceFields <= 40, "at most some forty fields");
  }

  private static void checkMethods() {
    Set<String> wanted = new TreeSet<>(Set.of(METHODS));
    Set<String> names = new TreeSet<>();
    for (Method method : TrimChecker.class.getDeclaredMethods()) {
      String told = method.getReturnType() + " " + method.getName() + " " + method.getParameterCount();
      expect(method.getParameterCount() <= 7, "at most seven parameters: " + told);
      expect(names.add(method.getName()), "one method of a name: " + told);
      if (!Modifier.isPrivate(method.getModifiers())) {
        expect(Modifier.isPublic(method.getModifiers()) && !Modifier.isStatic(method.getModifiers()),
            "public: " + told);
        expect(wanted.remove(told) && allInts(method.getParameterTypes()), "as in the document: " + told);
      }
    }
    expect(wanted.isEmpty(), "methods are there: " + wanted);
  }

  private static boolean allInts(Class<?>[] types) {
    for (Class<?> type : types) {
      if (type != int.class) {
        return false;
      }
    }
    return true;
  }

  private static void expect(boolean holds, String what) {
    if (!holds) {
      Run.tellWrong("not so: " + what);
    }
  }
}
