import java.lang.reflect.Constructor;
import java.lang.reflect.Field;
import java.lang.reflect.Method;
import java.lang.reflect.Modifier;
import java.util.ArrayList;
import java.util.Arrays;
import java.util.List;
import java.util.Set;
import java.util.TreeSet;

/** The public face, what LANGUAGE.md says of members, and the ends of int for each call. */
public final class FaceTest {
  private static final Check check = new Check("FaceTest");

  private static final String I = "IndexOutOfBoundsException";
  private static final String A = "IllegalArgumentException";
  private static final String S = "IllegalStateException";

  private static final String[] FACE = {
    "int create(int, int) " + I + " " + S,
    "int link(int, int, int) " + I + " " + S,
    "int unlink(int, int) " + I + " " + S,
    "void rename(int, int, int, boolean) " + I + " " + S,
    "int file(int, int) " + I,
    "int write(int, int, int, int, int, int) " + I + " " + A + " " + S,
    "int punch(int, int, int, int) " + I + " " + A + " " + S,
    "int clone(int, int, int, int, int, int, int) " + I + " " + A + " " + S,
    "boolean dedupe(int, int, int, int, int, int, int) " + I + " " + A + " " + S,
    "int defragment(int, int) " + I + " " + S,
    "int read(int, int, int) " + I + " " + S,
    "int ofFile(int, int, int) " + I + " " + A + " " + S,
    "int references(int, int, int) " + I + " " + S,
    "int branch(int, boolean) " + I + " " + S,
    "int drop(int) " + I + " " + S,
    "void limits(int, int, int) " + I + " " + A,
    "int ofTree(int, int) " + I + " " + A,
    "boolean areAlike(int, int) " + I,
    "int commit()",
    "int log(int, int) " + I + " " + S,
    "int crash()",
    "int send(int, int) " + I + " " + S,
    "int receive(int) " + I + " " + S,
    "int profile(int) " + A,
    "int balance(int) " + A,
    "boolean damage(int, int, int, int) " + I + " " + S,
    "int scrub()",
    "int free(int) " + I,
    "int freeAnew(int) " + I,
    "int copied()",
    "int mended()",
  };

  private static String told(Method method) {
    List<String> types = new ArrayList<>();
    for (Class<?> type : method.getParameterTypes()) {
      types.add(type.getSimpleName());
    }
    StringBuilder text = new StringBuilder();
    text.append(method.getReturnType().getSimpleName()).append(' ').append(method.getName());
    text.append('(').append(String.join(", ", types)).append(')');
    for (Class<?> thrown : method.getExceptionTypes()) {
      text.append(' ').append(thrown.getSimpleName());
    }
    return text.toString();
  }

  private static void face() {
    check.promise("the public face");
    Set<String> methods = new TreeSet<>();
    Set<String> names = new TreeSet<>();
    for (Method method : Treebark.class.getDeclaredMethods()) {
      if (Modifier.isPublic(method.getModifiers())) {
        methods.add(told(method));
        names.add(method.getName());
      }
    }
    check.due("public methods", new TreeSet<>(Arrays.asList(FACE)), methods);
    for (Method method : Treebark.class.getDeclaredMethods()) {
      int modifiers = method.getModifiers();
      if (!Modifier.isPublic(modifiers)) {
        check.due(method + " is private", true, Modifier.isPrivate(modifiers));
        check.due(method + " has a name of its own", false, names.contains(method.getName()));
      }
      check.due(method + " has at most seven parameters", true, method.getParameterCount() <= 7);
    }
    Set<String> constants = new TreeSet<>();
    for (Field field : Treebark.class.getDeclaredFields()) {
      int modifiers = field.getModifiers();
      if (!Modifier.isPrivate(modifiers)) {
        constants.add(Modifier.toString(modifiers) + " " + field.getType() + " " + field.getName());
      }
      check.due(field + " is final, if it is static", true, !Modifier.isStatic(modifiers) || Modifier.isFinal(modifiers));
    }
    check.due("constants", new TreeSet<>(List.of("public static final int NONE", "public static final int LOST",
        "public static final int SINGLE", "public static final int MIRROR")), constants);
    Constructor<?>[] constructors = Treebark.class.getDeclaredConstructors();
    check.due("constructors", 1, constructors.length);
    check.due("the constructor", "public Treebark()", constructors[0].toString());
    check.due("the class", "public final", Modifier.toString(Treebark.class.getModifiers()));
  }

  private static void classesInside() {
    check.promise("LANGUAGE.md");
    Class<?>[] classes = Treebark.class.getDeclaredClasses();
    check.due("at most twelve classes", true, classes.length < 12);
    for (Class<?> one : classes) {
      check.due(one + " is private", true, Modifier.isPrivate(one.getModifiers()));
      check.due(one + " is static", true, Modifier.isStatic(one.getModifiers()));
      check.due(one + " holds at most twenty fields", true, one.getDeclaredFields().length <= 20);
      for (Method method : one.getDeclaredMethods()) {
        check.due(method + " is not public", false, Modifier.isPublic(method.getModifiers()));
        check.due(method + " has at most seven parameters", true, method.getParameterCount() <= 7);
      }
    }
  }

  /** Each call with all that is far out: only what its own face names may be thrown, and just that class. */
  private static void endsOfInt() throws IllegalAccessException {
    check.promise("the ends of int");
    int[] far = {Integer.MIN_VALUE, -1, 0, 1, 16, Integer.MAX_VALUE};
    Treebark x = new Treebark();
    x.create(0, 0);
    for (Method method : Treebark.class.getDeclaredMethods()) {
      if (!Modifier.isPublic(method.getModifiers())) {
        continue;
      }
      int count = method.getParameterCount();
      for (int mix = 0; mix < Math.pow(far.length, count) && mix < 50000; mix++) {
        Object[] arguments = new Object[count];
        int rest = mix * (count == 7 ? 5 : 1);
        for (int i = 0; i < count; i++) {
          int one = far[rest % far.length];
          rest /= far.length;
          arguments[i] = method.getParameterTypes()[i] == int.class ? (Object) one : (Object) (one < 0);
        }
        try {
          method.invoke(x, arguments);
        } catch (java.lang.reflect.InvocationTargetException e) {
          if (!Arrays.asList(method.getExceptionTypes()).contains(e.getCause().getClass())) {
            check.due(method + " of " + Arrays.toString(arguments), "no " + e.getCause(), e.getCause());
          }
        }
      }
      check.due(method + " at the ends of int", true, true);
    }
  }

  /** What later calls answer is free, but the machine must not throw in them either. */
  private static void manyCalls() {
    check.promise("behind the 512th call");
    Treebark x = new Treebark();
    boolean good = true;
    for (int i = 0; i < 3000; i++) {
      try {
        x.create(0, i % 10);
        x.write(0, i % 10, i % 13, 4, i % 900, i % 2);
        good &= x.log(0, i % 10) <= 512;
        x.unlink(0, i % 10);
      } catch (IllegalStateException e) {
        good &= e.getClass() == IllegalStateException.class;
      }
    }
    check.due("a log that goes on", true, good && x.free(0) == x.freeAnew(0));
  }

  public static void main(String[] args) throws IllegalAccessException {
    face();
    classesInside();
    endsOfInt();
    manyCalls();
    check.end();
  }
}
