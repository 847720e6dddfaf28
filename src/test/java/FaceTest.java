import java.lang.reflect.Constructor;
import java.lang.reflect.Field;
import java.lang.reflect.Method;
import java.lang.reflect.Modifier;
import java.util.Set;
import java.util.TreeSet;

/** The class has the document's face, with the exceptions behind "throws", and shows no more. */
public final class FaceTest {
  private static final String[] FACE = {
    "int number(int,int) ArithmeticException,IllegalStateException",
    "int letter(int) IllegalArgumentException,IllegalStateException",
    "int add(int,int) IndexOutOfBoundsException,IllegalStateException",
    "int times(int,int) IndexOutOfBoundsException,IllegalStateException",
    "int over(int,int) IndexOutOfBoundsException,IllegalStateException",
    "int derive(int) IndexOutOfBoundsException,IllegalStateException",
    "int logarithm(int) IndexOutOfBoundsException,IllegalStateException",
    "int exponential(int) IndexOutOfBoundsException,IllegalStateException",
    "int terms(int) IndexOutOfBoundsException",
    "int term(int,int,int) IndexOutOfBoundsException,IllegalArgumentException",
    "int limit(int) IndexOutOfBoundsException",
    "int value(int,int) IndexOutOfBoundsException,IllegalStateException,IllegalArgumentException",
    "int compare(int,int) IndexOutOfBoundsException",
    "long ratio(int,int,int)"
        + " IndexOutOfBoundsException,IllegalStateException,IllegalArgumentException",
    "int sign(int) IndexOutOfBoundsException",
    "boolean same(int,int) IndexOutOfBoundsException",
    "int fastest(int) IllegalArgumentException",
    "int count() ",
  };

  private static int wrong = 0;

  public static void main(String[] args) {
    Class<?> face = GrowthLimits.class;
    check(face.getModifiers() == (Modifier.PUBLIC | Modifier.FINAL), "the class: public, final");
    checkConstructors(face);
    checkMethods(face);
    for (Field field : face.getDeclaredFields()) {
      int modifiers = field.getModifiers();
      check(Modifier.isPrivate(modifiers), "field is private: " + field);
      check(!Modifier.isStatic(modifiers) || Modifier.isFinal(modifiers), "no state: " + field);
    }
    for (Class<?> inside : face.getDeclaredClasses()) {
      int modifiers = inside.getModifiers();
      check(Modifier.isStatic(modifiers), "class inside is static: " + inside);
      check(!Modifier.isPublic(modifiers) && !Modifier.isProtected(modifiers), "hidden: " + inside);
    }
    System.out.println(wrong == 0 ? "the face is the document's" : wrong + " faults of the face");
    if (wrong != 0) {
      System.exit(1);
    }
  }

  private static void checkConstructors(Class<?> face) {
    Constructor<?>[] constructors = face.getDeclaredConstructors();
    check(constructors.length == 1, "one constructor");
    check(Modifier.isPublic(constructors[0].getModifiers()), "a public constructor");
    check(constructors[0].getParameterCount() == 0, "a constructor without parameters");
  }

  private static void checkMethods(Class<?> face) {
    Set<String> open = new TreeSet<>();
    Set<String> names = new TreeSet<>();
    for (Method method : face.getDeclaredMethods()) {
      if (!Modifier.isPrivate(method.getModifiers())) {
        check(method.getModifiers() == Modifier.PUBLIC, "plainly public: " + method);
        open.add(textOf(method));
        names.add(method.getName());
      }
    }
    check(open.equals(new TreeSet<>(Set.of(FACE))), "the open methods are the face: " + open);
    for (Method method : face.getDeclaredMethods()) {
      boolean hidden = Modifier.isPrivate(method.getModifiers());
      check(!hidden || !names.contains(method.getName()), "a name of its own: " + method);
    }
  }

  private static String textOf(Method method) {
    StringBuilder out = new StringBuilder();
    out.append(method.getReturnType().getName()).append(' ').append(method.getName()).append('(');
    join(out, method.getParameterTypes());
    out.append(") ");
    join(out, method.getExceptionTypes());
    return out.toString();
  }

  private static void join(StringBuilder out, Class<?>[] types) {
    for (int i = 0; i < types.length; i++) {
      out.append(i == 0 ? "" : ",").append(types[i].getSimpleName());
    }
  }

  private static void check(boolean holds, String what) {
    if (!holds) {
      wrong++;
      System.out.println("not so: " + what);
    }
  }
}
