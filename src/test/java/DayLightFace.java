import java.lang.reflect.Field;
import java.lang.reflect.Method;
import java.lang.reflect.Modifier;
import java.util.Arrays;
import java.util.Set;
import java.util.TreeSet;

/** The class has the document's face, and no member beside it that others could see. */
public final class DayLightFace {
  private static final Set<String> METHODS = new TreeSet<>(Arrays.asList(
      "int cell(int, int, int)", "int window(int, int, int, boolean)", "int at(int, int, int)",
      "int desk(int, int)", "int move(int, int, int)", "int ray(int, int)", "int sky(int)",
      "int bright(int, int)", "int sun(int, int, int)", "int lose(int)", "int set(int, int)",
      "int law(int, int)", "int down(int, int, int)", "int light(int, int, int)",
      "int enough(int, int)", "int offer(int, int, int, int)", "int best(int, int)",
      "int make(int)", "int keep()", "int loss(int)", "int count(int)"));
  private static final Set<String> CONSTANTS = new TreeSet<>(Arrays.asList(
      "NONE = -1", "UNKNOWN = -2", "OUTSIDE = -3", "NOT = -4", "FULL = -5"));

  private static int wrong = 0;

  private static void due(String what, Object got, Object want) {
    if (!got.equals(want)) {
      wrong++;
      System.out.println(what + ": " + got + ", due is " + want);
    }
  }

  public static void main(String[] args) throws IllegalAccessException {
    Class<?> type = DayLight.class;
    due("the class", Modifier.toString(type.getModifiers()), "public final");
    due("constructors", type.getDeclaredConstructors().length, 1);
    due("the constructor", type.getDeclaredConstructors()[0].toString(), "public DayLight()");
    methods(type);
    fields(type);
    for (Class<?> inside : type.getDeclaredClasses()) {
      due("static: " + inside.getName(), Modifier.isStatic(inside.getModifiers()), true);
      due("not public: " + inside.getName(), Modifier.isPublic(inside.getModifiers()), false);
      for (Field field : inside.getDeclaredFields()) {
        due("no static state: " + field, Modifier.isStatic(field.getModifiers()), false);
      }
    }
    System.out.println(wrong == 0 ? "the face is as due" : wrong + " parts of the face are not as due");
    if (wrong != 0) {
      System.exit(1);
    }
  }

  private static void methods(Class<?> type) {
    Set<String> seen = new TreeSet<>();
    Set<String> names = new TreeSet<>();
    for (Method method : type.getDeclaredMethods()) {
      if (!Modifier.isPrivate(method.getModifiers())) {
        due("modifiers of " + method.getName(), Modifier.toString(method.getModifiers()), "public");
        String taken = Arrays.toString(method.getParameterTypes());
        seen.add(method.getReturnType() + " " + method.getName()
            + "(" + taken.substring(1, taken.length() - 1) + ")");
        names.add(method.getName());
      }
    }
    due("methods", seen, METHODS);
    for (Method method : type.getDeclaredMethods()) {
      if (Modifier.isPrivate(method.getModifiers())) {
        due("bears a public name: " + method, names.contains(method.getName()), false);
      }
    }
  }

  private static void fields(Class<?> type) throws IllegalAccessException {
    Set<String> seen = new TreeSet<>();
    for (Field field : type.getDeclaredFields()) {
      if (!Modifier.isPrivate(field.getModifiers())) {
        due("modifiers of " + field.getName(),
            Modifier.toString(field.getModifiers()), "public static final");
        due("type of " + field.getName(), field.getType(), int.class);
        seen.add(field.getName() + " = " + field.getInt(null));
      } else if (Modifier.isStatic(field.getModifiers())) {
        due("final: " + field.getName(), Modifier.isFinal(field.getModifiers()), true);
      }
    }
    due("constants", seen, CONSTANTS);
  }
}
