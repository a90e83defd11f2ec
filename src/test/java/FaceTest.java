import java.lang.reflect.Constructor;
import java.lang.reflect.Field;
import java.lang.reflect.Method;
import java.lang.reflect.Modifier;
import java.util.Arrays;
import java.util.TreeSet;

/** The document's face, as the class shows it: every member that is not private, and none besides. */
public final class FaceTest {
  private static final String[] METHODS = {
    "int law(int, int)", "int value(int, int)", "int odds(long, int, int, int)", "int best(long, int, int)",
    "int fewest(long, int, int)", "int book(int, int, int)", "int as(int, int)", "int about(int, int)",
    "int at(int, int)", "long row(int, int)", "long places(int, int)", "int put(int, int)", "int take(int, int)",
    "int build(int, long, long)", "int real(int, int)", "long keys(int, int)", "int join(int, int, boolean)",
    "int halve(int)", "long spoil(int, int)", "long made(int, int)", "int order(int, long, int)",
    "int most(int, long)", "int count(int)", "long digest()"};

  public static void main(String[] args) {
    Class<?> face = SureNoes.class;
    Due.holds("public and final", Modifier.isPublic(face.getModifiers()) && Modifier.isFinal(face.getModifiers()));
    constants(face);
    constructors(face);
    methods(face);
    classesInside(face);
    Due.end();
  }

  private static void constants(Class<?> face) {
    Due.is("NONE", SureNoes.NONE, -1);
    Due.is("SPENT", SureNoes.SPENT, -2);
    Due.is("UNKNOWN", SureNoes.UNKNOWN, -101);
    Due.is("OUTSIDE", SureNoes.OUTSIDE, -102);
    Due.is("STATE", SureNoes.STATE, -103);
    Due.is("FULL", SureNoes.FULL, -104);
    int shown = 0;
    for (Field field : face.getDeclaredFields()) {
      if (!Modifier.isPrivate(field.getModifiers())) {
        shown++;
      }
    }
    Due.is("fields that are not private", shown, 6);
  }

  private static void constructors(Class<?> face) {
    Constructor<?>[] all = face.getDeclaredConstructors();
    Due.is("constructors", all.length, 1);
    Due.holds("public, without arguments", Modifier.isPublic(all[0].getModifiers()) && all[0].getParameterCount() == 0);
  }

  private static void methods(Class<?> face) {
    TreeSet<String> shown = new TreeSet<>();
    TreeSet<String> names = new TreeSet<>();
    TreeSet<String> hidden = new TreeSet<>();
    for (Method method : face.getDeclaredMethods()) {
      if (method.isSynthetic()) {
        continue;
      }
      if (Modifier.isPrivate(method.getModifiers())) {
        hidden.add(method.getName());
        continue;
      }
      StringBuilder told = new StringBuilder();
      for (Class<?> type : method.getParameterTypes()) {
        told.append(told.length() == 0 ? "" : ", ").append(type.getName());
      }
      shown.add(method.getReturnType().getName() + " " + method.getName() + "(" + told + ")");
      names.add(method.getName());
      Due.holds(method.getName() + " is public", Modifier.isPublic(method.getModifiers()));
    }
    Due.holds("methods " + shown, shown.equals(new TreeSet<>(Arrays.asList(METHODS))));
    hidden.retainAll(names);
    Due.holds("no private method bears the name of a public one: " + hidden, hidden.isEmpty());
  }

  private static void classesInside(Class<?> face) {
    Due.holds("some twelve classes at most", face.getDeclaredClasses().length <= 12);
    for (Class<?> inside : face.getDeclaredClasses()) {
      Due.holds(inside.getName() + " is static", Modifier.isStatic(inside.getModifiers()));
      Due.holds(inside.getName() + " is not public",
          !Modifier.isPublic(inside.getModifiers()) && !Modifier.isProtected(inside.getModifiers()));
    }
  }
}
