import java.io.IOException;
import java.lang.reflect.Field;
import java.lang.reflect.Method;
import java.nio.file.Files;
import java.nio.file.Path;
import java.util.ArrayList;
import java.util.HashMap;
import java.util.List;
import java.util.Map;
import java.util.Random;
import java.util.Set;
import java.util.TreeMap;
import java.util.TreeSet;
import java.util.regex.Matcher;
import java.util.regex.Pattern;

/**
 * What README.md tells, against the class: each answer of its example, and of its table the calls,
 * the answers by which each is refused, and the ranges of answers.
 */
public final class DayLightReadme {
  private static final Path README = Path.of("README.md");
  private static final Path SOURCE = Path.of("src/main/java/DayLight.java");

  private static final Pattern EXAMPLE = Pattern.compile("(?s)```java\n(.*?)```");
  private static final String FIRST_LINE = "DayLight d = new DayLight();";
  private static final Pattern CALL_LINE =
      Pattern.compile("d\\.(\\w+)\\((.*?)\\); +// (-?\\d+|[A-Z]+): .+");
  private static final Pattern ROW =
      Pattern.compile("(?m)^\\| `((\\w+)\\(.*?\\))` \\|[^|]*\\|([^|]*)\\| ([^|]*) \\|$");
  private static final Pattern PUBLIC_CALL = Pattern.compile("public int (\\w+)\\(([^)]*)\\)");
  private static final Pattern CONSTANT = Pattern.compile("`([A-Z]+)` \\((-\\d+)\\)");
  private static final Pattern RANGE = Pattern.compile("^ (\\d+) to (\\d+)\\b");

  private static final int RUNS = 400;
  private static final int CALLS = 512;
  private static final int[] NUMBERS = {
    -1, 0, 0, 0, 1, 1, 1, 2, 2, 3, 3, 4, 5, 6, 7, 8, 9, 11, 12, 15, 16, 300, 1000, 1001, 2000, 2001,
    5000, 5001, Integer.MIN_VALUE, Integer.MAX_VALUE
  };

  private static int asked = 0;
  private static int wrong = 0;

  public static void main(String[] args) throws IOException, ReflectiveOperationException {
    String readme = Files.readString(README);
    example(readme);
    constants(readme);
    calls(readme);
    answersOfTheTable(readme);
    System.out.println(asked + " things told, " + wrong + " wrong");
    if (wrong != 0) {
      System.exit(1);
    }
  }

  private static void due(String what, Object got, Object want) {
    asked++;
    if (!got.equals(want)) {
      wrong++;
      System.out.println("README.md, " + what + ": the class has " + got + ", told is " + want);
    }
  }

  // ---- the example

  private static void example(String readme) throws ReflectiveOperationException {
    Matcher block = EXAMPLE.matcher(readme);
    due("an example", block.find(), true);
    String[] lines = block.group(1).split("\n");
    due("the first line of the example", FIRST_LINE, lines[0]);
    DayLight d = new DayLight();
    for (int i = 1; i < lines.length; i++) {
      Matcher line = CALL_LINE.matcher(lines[i]);
      // A line without an answer would be one that nothing holds against the class.
      boolean told = line.matches();
      due("a call and its answer: " + lines[i], told, true);
      if (told) {
        due(lines[i], answer(d, line.group(1), line.group(2)), number(line.group(3)));
      }
    }
  }

  private static int answer(DayLight d, String name, String numbers)
      throws ReflectiveOperationException {
    Method method = publicCalls().get(name);
    List<Object> taken = new ArrayList<>();
    for (String word : numbers.split(", ")) {
      if (!word.isEmpty()) {
        taken.add(word.equals("true") || word.equals("false")
            ? Boolean.valueOf(word) : (Object) number(word));
      }
    }
    return (Integer) method.invoke(d, taken.toArray());
  }

  private static int number(String word) throws ReflectiveOperationException {
    return Character.isLetter(word.charAt(0))
        ? DayLight.class.getField(word).getInt(null) : Integer.parseInt(word);
  }

  private static Map<String, Method> publicCalls() {
    Map<String, Method> calls = new TreeMap<>();
    for (Method method : DayLight.class.getMethods()) {
      if (method.getDeclaringClass() == DayLight.class) {
        calls.put(method.getName(), method);
      }
    }
    return calls;
  }

  // ---- the constants and the table

  private static void constants(String readme) throws ReflectiveOperationException {
    Set<String> told = new TreeSet<>();
    Matcher constant = CONSTANT.matcher(readme);
    while (constant.find()) {
      told.add(constant.group(1));
      due(constant.group(), number(constant.group(1)), Integer.valueOf(constant.group(2)));
    }
    Set<String> have = new TreeSet<>();
    for (Field field : DayLight.class.getFields()) {
      have.add(field.getName());
    }
    due("the constants", have, told);
  }

  private static void calls(String readme) throws IOException {
    List<String> told = new ArrayList<>();
    Matcher row = ROW.matcher(readme);
    while (row.find()) {
      told.add(row.group(1));
    }
    List<String> have = new ArrayList<>();
    Matcher call = PUBLIC_CALL.matcher(Files.readString(SOURCE));
    while (call.find()) {
      have.add(call.group(1) + "(" + call.group(2).replaceAll("(int|boolean) ", "") + ")");
    }
    due("the calls of the table", have, told);
  }

  private static void answersOfTheTable(String readme) throws ReflectiveOperationException {
    Map<String, TreeSet<Integer>> seen = answersSeen();
    Matcher row = ROW.matcher(readme);
    while (row.find()) {
      String name = row.group(2);
      TreeSet<Integer> answers = seen.getOrDefault(name, new TreeSet<>());
      due(name + " is refused with", refusals(name, answers), refusalsTold(row.group(4)));
      Matcher range = RANGE.matcher(row.group(3));
      if (range.find()) {
        due(name + ", its least answer", answers.ceiling(0), Integer.valueOf(range.group(1)));
        due(name + ", its most", answers.last(), Integer.valueOf(range.group(2)));
      }
    }
  }

  private static Set<Integer> refusalsTold(String words) throws ReflectiveOperationException {
    Set<Integer> told = new TreeSet<>();
    if (words.equals("the least int")) {
      told.add(Integer.MIN_VALUE);
    } else if (!words.equals("never")) {
      for (String word : words.split(", ")) {
        told.add(number(word));
      }
    }
    return told;
  }

  private static Set<Integer> refusals(String name, TreeSet<Integer> answers) {
    Set<Integer> refusals = new TreeSet<>(answers.headSet(0));
    if (name.equals("loss")) {
      // A sky is 0 to 1000, so a loss is no less than -1000.
      refusals = new TreeSet<>(answers.headSet(-1000));
    }
    if (name.equals("ray")) {
      refusals.remove(DayLight.NONE);
    }
    return refusals;
  }

  /** What each call answered in runs drawn with fixed seeds. */
  private static Map<String, TreeSet<Integer>> answersSeen() throws ReflectiveOperationException {
    Map<String, TreeSet<Integer>> seen = new HashMap<>();
    List<Method> all = new ArrayList<>(publicCalls().values());
    for (int seed = 0; seed < RUNS; seed++) {
      Random random = new Random(seed);
      DayLight d = new DayLight();
      for (int i = 0; i < CALLS; i++) {
        Method method = all.get(random.nextInt(all.size()));
        int answer = (Integer) method.invoke(d, drawn(random, method.getParameterTypes()));
        seen.computeIfAbsent(method.getName(), name -> new TreeSet<>()).add(answer);
      }
    }
    rareOnes(seen);
    return seen;
  }

  private static Object[] drawn(Random random, Class<?>[] types) {
    Object[] taken = new Object[types.length];
    for (int i = 0; i < types.length; i++) {
      taken[i] = types[i] == boolean.class
          ? (Object) random.nextBoolean() : (Object) NUMBERS[random.nextInt(NUMBERS.length)];
    }
    return taken;
  }

  /** The ends of the ranges and a full list of offers, which drawn runs hardly meet. */
  private static void rareOnes(Map<String, TreeSet<Integer>> seen) {
    DayLight d = new DayLight();
    d.desk(3, 3);
    for (int hour = 0; hour < 12; hour++) {
      d.bright(hour, 1000);
      d.sun(hour, 0, 1000);
    }
    seen.get("light").add(d.light(0, 0, 0));
    seen.get("enough").add(d.enough(0, 0));
    for (int n = 0; n < 6; n++) {
      seen.get("offer").add(d.offer(0, 0, 8, 0));
    }
    for (int n = 0; n < 9; n++) {
      d.cell(2 + n % 3, 2 + n / 3, 1);
    }
    seen.get("sky").add(d.sky(0));
    seen.get("light").add(d.light(0, 0, 0));
    seen.get("enough").add(d.enough(0, 0));
  }
}
