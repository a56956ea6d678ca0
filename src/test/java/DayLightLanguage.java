import java.io.IOException;
import java.lang.management.ManagementFactory;
import java.nio.file.Files;
import java.nio.file.Path;
import java.util.regex.Matcher;
import java.util.regex.Pattern;

/** What LANGUAGE.md rules out does not stand in the class, and calls make no objects. */
public final class DayLightLanguage {
  private static final Path SOURCE = Path.of("src/main/java/DayLight.java");
  /** The class needs nothing of the library, so it may import nothing. */
  private static final String[] RULED_OUT = {
    "\\b(throw|throws|try|catch|synchronized|assert|import|package)\\b", "->", "::", "\\bvar\\b",
    "Exact\\b", "\\b(double|float|Object|System|Thread|Random)\\b", "static\\s*\\{",
    "\\.(equals|hashCode|toString)\\b", "@\\w+"
  };

  private static int wrong = 0;

  public static void main(String[] args) throws IOException {
    String code = withoutComments(Files.readString(SOURCE));
    for (String rule : RULED_OUT) {
      Matcher matcher = Pattern.compile(rule).matcher(code);
      while (matcher.find()) {
        fault("ruled out: " + matcher.group());
      }
    }
    callsMakeNoObjects();
    System.out.println(wrong == 0 ? "the language is kept to" : wrong + " faults");
    if (wrong != 0) {
      System.exit(1);
    }
  }

  private static void fault(String text) {
    wrong++;
    System.out.println(text);
  }

  private static String withoutComments(String text) {
    return text.replaceAll("(?s)/\\*.*?\\*/", " ").replaceAll("//[^\n]*", " ");
  }

  private static void callsMakeNoObjects() {
    com.sun.management.ThreadMXBean threads =
        (com.sun.management.ThreadMXBean) ManagementFactory.getThreadMXBean();
    DayLight d = new DayLight();
    // Once ahead of the measure, since the machine itself makes things when code first runs.
    threads.getCurrentThreadAllocatedBytes();
    everyCall(d);
    long before = threads.getCurrentThreadAllocatedBytes();
    for (int i = 0; i < 200; i++) {
      everyCall(d);
    }
    long made = threads.getCurrentThreadAllocatedBytes() - before;
    // The measure itself may make a little; 200 rounds with one object each make 3,200 bytes.
    if (made > 1000) {
      fault("calls made " + made + " bytes of objects");
    }
  }

  private static void everyCall(DayLight d) {
    d.desk(3, 3);
    d.move(0, 2, 2);
    d.cell(4, 2, 1);
    d.cell(4, 4, 1);
    d.window(5, 5, 8, true);
    d.bright(0, 500);
    d.sun(0, 2, 900);
    d.lose(1);
    d.set(0, 900);
    d.law(200, 100);
    d.offer(4, 2, 8, 10);
    d.offer(4, 4, 8, 10);
    d.best(1000, 0);
    d.keep();
    d.make(1000);
    d.at(4, 2, 0);
    d.ray(0, 2);
    d.sky(0);
    d.down(5, 5, 0);
    d.light(0, 1, 1);
    d.enough(0, 0);
    d.loss(0);
    d.count(3);
  }
}
