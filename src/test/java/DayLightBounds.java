import java.util.ArrayList;
import java.util.HashMap;
import java.util.List;
import java.util.Map;

/**
 * Each sentence of the document that names a boundary, by a run of its own: the numbers just inside
 * and just outside, what is empty, what is full, what is refused and with which answer.
 *
 * <p>A run is a text. A line is a call, its numbers and the answer that is due; 0..3 stands for 0,
 * 1, 2, 3 and 5|8 for 5 and 8, each tried with each of the others, the last number fastest, with one
 * answer for all or as many as there are calls. LOW and HIGH are numbers beyond all that the
 * document names, some of which fall into a range if they are cut to fewer bits. A line "new" begins
 * anew with a new object; what stands behind "#" is for the reader.
 */
public final class DayLightBounds {
  private static final int MOST_CALLS = 512;
  private static final int[] LOW = {Integer.MIN_VALUE, -65536, -256, -16, -1};
  private static final int[] HIGH = {65536, 65537, 1 << 30, Integer.MAX_VALUE};

  private static int asked = 0;
  private static int wrong = 0;
  private static int sentences = 0;

  public static void main(String[] args) {
    cells();
    kinds();
    directions();
    sideCells();
    shutSteps();
    edgeOfThePlan();
    shares();
    exactShares();
    ownCell();
    desks();
    sky();
    hours();
    light();
    lostHours();
    blindsGoDown();
    blindsGoUp();
    blindsStay();
    law();
    enough();
    offers();
    choices();
    best();
    bestOfSeveral();
    made();
    kept();
    counts();
    lastCall();
    refusedInThePlan();
    refusedInHours();
    refusedOffers();
    firstThatFits();
    refusedWhenNew();
    System.out.println(sentences + " sentences, " + asked + " answers, " + wrong + " wrong");
    if (wrong != 0) {
      System.exit(1);
    }
  }

  // ---- runs

  private static void sentence(String words, String text) {
    sentences++;
    Run run = new Run(words);
    for (String line : lines(text)) {
      run.take(line);
    }
  }

  private static List<String> lines(String text) {
    List<String> lines = new ArrayList<>();
    for (String line : text.split("\n")) {
      String call = line.split("#")[0].trim();
      if (!call.isEmpty()) {
        lines.add(call);
      }
    }
    return lines;
  }

  private static void fault(String words, String what) {
    wrong++;
    System.out.println("\"" + words + "\": " + what);
  }

  /** One object after the other, and the calls that it has had. */
  private static final class Run {
    private final String words;
    private DayLight d = new DayLight();
    private int calls = 0;

    private Run(String words) {
      this.words = words;
    }

    private void take(String line) {
      if (line.equals("new")) {
        d = new DayLight();
        calls = 0;
        return;
      }
      String[] sides = line.split("=");
      List<Call> all = Call.all(sides[0]);
      String[] answers = sides[1].trim().split("\\s+");
      if (answers.length != 1 && answers.length != all.size()) {
        throw new IllegalStateException("not as many answers as calls: " + line);
      }
      for (int i = 0; i < all.size(); i++) {
        due(all.get(i), number(answers[answers.length == 1 ? 0 : i]));
      }
    }

    private void due(Call call, int want) {
      asked++;
      int got = answer(call);
      if (got != want) {
        fault(words, call.text() + " answered " + got + ", due is " + want);
      }
    }

    private int answer(Call call) {
      calls++;
      if (calls > MOST_CALLS) {
        throw new IllegalStateException("what the document leaves free is asked: " + words);
      }
      return call.on(d);
    }
  }

  private static int number(String word) {
    switch (word) {
      case "NONE": return -1;
      case "UNKNOWN": return -2;
      case "OUTSIDE": return -3;
      case "NOT": return -4;
      case "FULL": return -5;
      case "LEAST": return Integer.MIN_VALUE;
      case "true": return 1;
      case "false": return 0;
      default: return Integer.parseInt(word);
    }
  }

  private record Call(String name, List<Integer> numbers) {
    private static List<Call> all(String text) {
      String[] words = text.trim().split("\\s+");
      List<Call> all = List.of(new Call(words[0], List.of()));
      for (int i = 1; i < words.length; i++) {
        List<Call> longer = new ArrayList<>();
        for (Call call : all) {
          for (int number : numbers(words[i])) {
            List<Integer> more = new ArrayList<>(call.numbers);
            more.add(number);
            longer.add(new Call(call.name, more));
          }
        }
        all = longer;
      }
      return all;
    }

    private static List<Integer> numbers(String word) {
      List<Integer> numbers = new ArrayList<>();
      for (String part : word.split("\\|")) {
        if (part.equals("LOW") || part.equals("HIGH")) {
          for (int far : part.equals("LOW") ? LOW : HIGH) {
            numbers.add(far);
          }
        } else if (part.contains("..")) {
          String[] ends = part.split("\\.\\.");
          for (int n = number(ends[0]); n <= number(ends[1]); n++) {
            numbers.add(n);
          }
        } else {
          numbers.add(number(part));
        }
      }
      return numbers;
    }

    private int at(int i) {
      return numbers.get(i);
    }

    private String text() {
      return name + numbers;
    }

    private int on(DayLight d) {
      switch (name) {
        case "cell": return d.cell(at(0), at(1), at(2));
        case "window": return d.window(at(0), at(1), at(2), at(3) == 1);
        case "at": return d.at(at(0), at(1), at(2));
        case "desk": return d.desk(at(0), at(1));
        case "move": return d.move(at(0), at(1), at(2));
        case "ray": return d.ray(at(0), at(1));
        case "sky": return d.sky(at(0));
        case "bright": return d.bright(at(0), at(1));
        case "sun": return d.sun(at(0), at(1), at(2));
        case "lose": return d.lose(at(0));
        case "set": return d.set(at(0), at(1));
        case "law": return d.law(at(0), at(1));
        case "down": return d.down(at(0), at(1), at(2));
        case "light": return d.light(at(0), at(1), at(2));
        case "enough": return d.enough(at(0), at(1));
        case "offer": return d.offer(at(0), at(1), at(2), at(3));
        case "best": return d.best(at(0), at(1));
        case "make": return d.make(at(0));
        case "keep": return d.keep();
        case "loss": return d.loss(at(0));
        case "count": return d.count(at(0));
        default: throw new IllegalStateException("no such call: " + name);
      }
    }
  }

  // ---- 1: the plan

  private static void cells() {
    sentence("THE PLAN has CELLS (x, y), x and y 0 .. 7", """
        at 0..7 0..7 0 = 0
        cell 0|7 0|7 1 = 0
        at 0|7 0|7 0 = 1
        count 3 = 4
        at -1|8 0..7 0 = UNKNOWN
        at 0..7 -1|8 0 = UNKNOWN
        at LOW|8|64|HIGH 0 0 = UNKNOWN
        at 0 LOW|8|64|HIGH 0 = UNKNOWN
        """);
    sentence("no such CELL: the end of a row is not the beginning of the next", """
        cell 8 3 1 = UNKNOWN
        at 0 4 0 = 0
        cell -1 4 1 = UNKNOWN
        at 7 3 0 = 0
        cell 16 3 1 = UNKNOWN
        at 0 5 0 = 0
        cell 7 3 1 = 0
        at 7 3 0 = 1
        at 6 3 0 = 0
        at 0 4 0 = 0
        at 3 7 0 = 0
        at -1 4 0 = UNKNOWN
        window 8 3 5 true = UNKNOWN
        at 0 4 0..2 = 0
        window 0 4 5 true = 0
        at 0 4 0..2 = 2 5 1
        at 7 3 0..2 = 1 0 0
        at 1 4 0..2 = 0
        """);
    sentence("each CELL by itself: no other becomes what it becomes", """
        cell 0..7 0..7 1 = 0
        count 3 = 64
        window 0..7 3 1 true = 1
        at 0..7 0..7 2 = 0 0 0 1 0 0 0 0  0 0 0 1 0 0 0 0  0 0 0 1 0 0 0 0  0 0 0 1 0 0 0 0 \
         0 0 0 1 0 0 0 0  0 0 0 1 0 0 0 0  0 0 0 1 0 0 0 0  0 0 0 1 0 0 0 0
        count 3|4 = 56 8
        cell 5 0..7 0 = 1 1 1 2 1 1 1 1
        count 3|4 = 49 7
        at 5 0..7 0 = 0
        at 4 0..7 0 = 1 1 1 2 1 1 1 1
        at 6 0..7 0 = 1 1 1 2 1 1 1 1
        """);
  }

  private static void kinds() {
    sentence("each FREE (0, all at first)", """
        at 0..7 0..7 0..2 = 0
        count 3|4 = 0
        cell 4 4 0 = 0
        """);
    sentence("A CELL becomes FREE (0) or a WALL (1): what it was (0, 1, 2)", """
        cell 2 5 0 = 0
        cell 2 5 1 = 0
        cell 2 5 1 = 1
        cell 2 5 0 = 1
        window 2 5 3 true = 0
        cell 2 5 1 = 2
        window 2 5 3 true = 1
        cell 2 5 0 = 2
        window 2 5 3 true = 0
        window 2 5 3 true = 2
        cell 2 5 -1|2|3 = OUTSIDE
        at 2 5 0 = 2
        """);
    sentence("GLASS (1 .. 8 eighths)", """
        window 3 3 1 false = 0
        at 3 3 1 = 1
        window 3 3 8 false = 2
        at 3 3 1 = 8
        window 3 3 0|9 false = OUTSIDE
        window 3 3 LOW|16|257|264|HIGH true = OUTSIDE
        at 3 3 0..2 = 2 8 0
        """);
    sentence("perhaps a BLIND", """
        window 3 3 8 true = 0
        at 3 3 2 = 1
        window 3 3 8 false = 2
        at 3 3 2 = 0
        window 3 3 8 true = 2
        at 3 3 2 = 1
        """);
    sentence("1 GLASS (0: no WINDOW), 2 whether it has a BLIND (1, 0)", """
        at 6 6 0..2 = 0
        window 6 6 7 true = 0
        at 6 6 0..2 = 2 7 1
        cell 6 6 1 = 2
        at 6 6 0..2 = 1 0 0
        window 6 6 7 true = 1
        cell 6 6 0 = 2
        at 6 6 0..2 = 0
        at 6 6 -1|3 = OUTSIDE
        """);
  }

  private static final String[] FIRST_CELLS = {
    "4 3", "5 4", "4 4", "4 5", "3 4", "2 5", "2 4", "1 4",
    "2 3", "1 2", "2 2", "2 1", "3 2", "4 1", "4 2", "5 2"
  };
  private static final int[] FREE_STEPS = {5, 3, 5, 3, 5, 3, 4, 2, 4, 2, 4, 2, 4, 2, 4, 3};

  private static void directions() {
    for (int patch = 0; patch < 16; patch++) {
      StringBuilder answers = new StringBuilder();
      for (int other = 0; other < 16; other++) {
        answers.append(" ").append(other == patch ? "NONE" : "" + FREE_STEPS[other]);
      }
      sentence("DIRECTIONS 0 .. 15 are steps: " + patch, "desk 3 3 = 0\n"
          + "ray 0 " + patch + " = " + FREE_STEPS[patch] + "\n"
          + "cell " + FIRST_CELLS[patch] + " 1 = 0\n"
          + "ray 0 0..15 =" + answers + "\n");
    }
    sentence("UNKNOWN (no such PATCH): the first is not beyond the last", """
        desk 3 3 = 0
        ray 0 -1|16 = UNKNOWN
        ray 0 LOW|16|17|32|256|HIGH = UNKNOWN
        sun 0 -1|16 500 = UNKNOWN
        sun 0 0 500 = 1
        light 0 0 0 = 500
        sun 0 15 400 = 1
        light 0 0 0 = 400
        """);
    sentence("How many steps a RAY of a DESK takes till it is beyond THE PLAN", """
        desk 0 0 = 0
        ray 0 0..15 = 8 4 8 4 8 1 1 1 1 1 1 1 1 1 1 1
        move 0 7 7 = 1
        ray 0 0..15 = 1 1 1 1 1 1 1 1 8 4 8 4 8 1 1 1
        move 0 7 0 = 1
        ray 0 0..15 = 1 1 1 1 8 4 8 4 8 1 1 1 1 1 1 1
        move 0 0 7 = 1
        ray 0 0..15 = 8 1 1 1 1 1 1 1 1 1 1 1 8 4 8 4
        """);
  }

  /** Patch, then the side cells of its first step from (3, 3). */
  private static final String[][] SIDE_CELLS = {
    {"1", "4 3", "4 4"}, {"2", "4 3", "3 4"}, {"3", "3 4", "4 4"}, {"5", "3 4", "2 4"},
    {"6", "2 3", "3 4"}, {"7", "2 3", "2 4"}, {"9", "2 3", "2 2"}, {"10", "2 3", "3 2"},
    {"11", "3 2", "2 2"}, {"13", "3 2", "4 2"}, {"14", "4 3", "3 2"}, {"15", "4 3", "4 2"}
  };

  private static void sideCells() {
    for (String[] sides : SIDE_CELLS) {
      String ray = "ray 0 " + sides[0] + " = ";
      String open = ray + FREE_STEPS[Integer.parseInt(sides[0])] + "\n";
      sentence("A step (dx, dy) has two SIDE CELLS: " + sides[0], "desk 3 3 = 0\n"
          + "cell " + sides[1] + " 1 = 0\n" + open
          + "cell " + sides[2] + " 1 = 0\n" + ray + "NONE\n"
          + "cell " + sides[1] + " 0 = 1\n" + open
          + "window " + sides[1] + " 1 true = 0\n" + open);
    }
    sentence("SIDE CELLS, if neither of dx, dy is 0", """
        desk 3 3 = 0
        cell 2|4 2..4 1 = 0
        ray 0 0|4|8|12 = NONE 5 NONE 4
        cell 2|4 3 0 = 1
        cell 3 2|4 1 = 0
        ray 0 0|4|8|12 = 5 NONE 4 NONE
        """);
    sentence("SIDE CELLS of each step, not of the first alone", """
        desk 0 0 = 0
        cell 7 6 1 = 0
        ray 0 2 = 8
        cell 6 7 1 = 0
        ray 0 2 = NONE
        new
        desk 0 0 = 0
        cell 5 2 1 = 0
        ray 0 1 = 4
        cell 5 3 1 = 0
        ray 0 1 = NONE
        new
        desk 0 0 = 0
        cell 2 5 1 = 0
        ray 0 3 = 4
        cell 3 5 1 = 0
        ray 0 3 = NONE
        """);
  }

  private static void shutSteps() {
    sentence("SHUT, if the CELL to which it goes is a WALL", """
        desk 0 3 = 0
        cell 7 3 1 = 0  # the last cell
        ray 0 0 = NONE
        window 7 3 1 true = 1
        ray 0 0 = 8
        cell 7 3 0 = 2
        ray 0 0 = 8
        cell 1 3 1 = 0  # the first
        ray 0 0 = NONE
        """);
    sentence("cells over which a step goes do not shut it: both SIDE CELLS are", """
        desk 3 3 = 0
        cell 4 3 1 = 0
        cell 5 3 1 = 0
        ray 0 1|15 = 3
        cell 4 4 1 = 0
        ray 0 1|15 = NONE 3
        cell 4 2 1 = 0
        ray 0 1|15 = NONE
        window 4 3 1 true = 1
        ray 0 1|15 = 3
        """);
    sentence("A RAY with a SHUT step has SHARE 0", """
        desk 0 0 = 0
        window 1 0 8 false = 0
        bright 0 16 = 1
        sun 0 0 1000 = 1
        light 0 0 0 = 1016
        cell 7 0 1 = 0
        ray 0 0 = NONE
        light 0 0 0 = 15
        sky 0 = 937
        """);
  }

  private static void edgeOfThePlan() {
    sentence("(Beyond THE PLAN are no WALLS.)", """
        cell 0..7 0..7 1 = 0
        desk 7 3 = 0
        desk 0 3 = 1
        desk 3 7 = 2
        desk 3 0 = 3
        ray 0 0..15 = 1 1 1 1 NONE NONE NONE NONE NONE NONE NONE NONE NONE 1 1 1
        ray 1 0..15 = NONE NONE NONE NONE NONE 1 1 1 1 1 1 1 NONE NONE NONE NONE
        ray 2 0..15 = NONE 1 1 1 1 1 1 1 NONE NONE NONE NONE NONE NONE NONE NONE
        ray 3 0..15 = NONE NONE NONE NONE NONE NONE NONE NONE NONE 1 1 1 1 1 1 1
        sky 0..3 = 437
        """);
    sentence("(Beyond THE PLAN are no WALLS.): the corners", """
        cell 0..7 0..7 1 = 0
        desk 7 7 = 0
        desk 0 7 = 1
        desk 0 0 = 2
        desk 7 0 = 3
        ray 0 0..15 = 1 1 1 1 1 1 1 1 NONE NONE NONE NONE NONE 1 1 1
        ray 1 0..15 = NONE 1 1 1 1 1 1 1 1 1 1 1 NONE NONE NONE NONE
        ray 2 0..15 = NONE NONE NONE NONE NONE 1 1 1 1 1 1 1 1 1 1 1
        ray 3 0..15 = 1 1 1 1 NONE NONE NONE NONE NONE 1 1 1 1 1 1 1
        sky 0..3 = 687
        """);
    sentence("both of its SIDE CELLS are: of a step that goes beyond THE PLAN, too", """
        desk 6 3 = 0
        ray 0 1|15 = 1
        cell 7 3 1 = 0
        ray 0 1|15 = 1
        cell 7 4 1 = 0
        ray 0 1|15 = NONE 1
        cell 7 2 1 = 0
        ray 0 1|15 = NONE
        new
        desk 3 1 = 0
        ray 0 11|13 = 1
        cell 3 0 1 = 0
        cell 2 0 1 = 0
        ray 0 11|13 = NONE 1
        cell 4 0 1 = 0
        ray 0 11|13 = NONE
        cell 3 0 0 = 1
        ray 0 11|13 = 1
        new
        desk 1 3 = 0
        cell 0 2|4 1 = 0
        ray 0 7|9 = 1
        cell 0 3 1 = 0
        ray 0 7|9 = NONE
        new
        desk 3 6 = 0
        cell 2|4 7 1 = 0
        ray 0 3|5 = 1
        cell 3 7 1 = 0
        ray 0 3|5 = NONE
        """);
    sentence("a RAY does not come back at the other side of THE PLAN", """
        cell 0 0..7 1 = 0
        desk 7 3 = 0
        ray 0 0..3|13..15 = 1
        new
        cell 7 0..7 1 = 0
        desk 0 3 = 0
        ray 0 5..11 = 1
        new
        cell 0..7 0 1 = 0
        desk 3 7 = 0
        ray 0 1..7 = 1
        new
        cell 0..7 7 1 = 0
        desk 3 0 = 0
        ray 0 9..15 = 1
        new
        window 0|1 0..7 1 true = 0
        desk 7 3 = 0
        bright 0 1000 = 1
        sun 0 0 1000 = 1
        # 8 goes to both columns, 7 and 9 to one of them, the others to neither: 13 and 2/8 and 1/64
        sky 0 = 829
        light 0 0 0 = 1829
        new
        desk 3 3 = 0
        desk 3 4 = 1
        desk 7 3 = 2
        window 5 3 8 true = 0
        window 0 4 8 true = 0
        bright 0 1000 = 1
        sun 0 8 1000 = 1
        down 5 3 0 = 1
        down 0 4 0 = 1
        light 0 0 0 = 1945  # 15.125 and the sun: ray 0 goes to one of the two
        """);
  }

  private static void shares() {
    sentence("without WINDOWS 1", """
        desk 3 3 = 0
        sky 0 = 1000
        sun 0 0..15 1000 = 1
        light 0 0 0 = 1000
        """);
    sentence("GLASS eighths: of the least, of the most", """
        desk 3 3 = 0
        sun 0 0 1000 = 1
        window 5 3 1 false = 0
        light 0 0 0 = 125
        window 5 3 2 false = 2
        light 0 0 0 = 250
        window 5 3 7 false = 2
        light 0 0 0 = 875
        window 5 3 8 false = 2
        light 0 0 0 = 1000
        """);
    sentence("of all WINDOWS to which its steps went, one times the other", """
        desk 0 0 = 0
        sun 0 0 1000 = 1
        window 1 0 7 false = 0
        light 0 0 0 = 875
        window 7 0 7 false = 0
        light 0 0 0 = 765
        window 2..6 0 7 false = 0
        light 0 0 0 = 392
        sun 0 0 1 = 1
        light 0 0 0 = 0
        window 1..7 0 8 false = 2
        light 0 0 0 = 1
        window 1..7 0 1 false = 2
        sun 0 0 1000 = 1
        light 0 0 0 = 0
        sky 0 = 937
        """);
    sentence("WINDOWS to which its steps went: not those beside it or between", """
        desk 3 3 = 0
        window 4 3..4 1 false = 0
        sun 0 1 1000 = 1
        light 0 0 0 = 1000
        window 5 4 4 false = 0
        light 0 0 0 = 500
        window 7 5 4 false = 0
        light 0 0 0 = 250
        new
        desk 3 3 = 0
        window 3|2 2 1 false = 0
        sun 0 11 1000 = 1
        light 0 0 0 = 1000
        new
        desk 3 3 = 0
        window 2 3 1 false = 0
        window 3 4 1 false = 0
        sun 0 6 1000 = 1
        light 0 0 0 = 1000
        """);
    sentence("GLASS eighths, or one eighth, if the BLIND is DOWN", """
        law 0 0 = 1
        desk 3 3 = 0
        sun 0 0 1000 = 1
        window 5 3 8 true = 0
        down 5 3 0 = 1
        light 0 0 0 = 125
        window 5 3 1 true = 2
        down 5 3 0 = 1
        light 0 0 0 = 125
        window 5 3 8 true = 2
        window 7 3 8 true = 0
        light 0 0 0 = 15
        window 7 3 4 false = 2
        light 0 0 0 = 62
        """);
  }

  private static void exactShares() {
    sentence("by exact shares: SKY and LIGHT are cut, however little is wanting", """
        desk 0 0 = 0
        window 1..3 0 1 false = 0
        window 4..5 0 6 false = 0
        window 6..7 0 8 false = 0
        window 0 1 2 false = 0
        window 0 2..7 5 false = 0
        sky 0 = 875  # 14 and 33554 times 8 to the power -7: 875.99998
        bright 0 1000 = 1
        light 0 0 0 = 875
        cell 1|2 1 1 = 0
        sky 0 = 750  # 12 of them: 750.99998
        light 0 0 0 = 750
        cell 1|2 1 0 = 1
        desk 6 5 = 1
        window 7 5 8 true = 0
        sun 0 0 300 = 1
        lose 1 = 1
        down 7 5 0..1 = 1
        light 0 1 1 = 875  # with a blind that is down elsewhere
        """);
    sentence("by exact shares: SKY is not cut further, however little is over", """
        desk 0 0 = 0
        window 1..3 0 1 false = 0
        window 4 0 2 false = 0
        window 5 0 5 false = 0
        window 6 0 6 false = 0
        window 7 0 8 false = 0
        window 0 1..3 3 false = 0
        window 0 4..5 5 false = 0
        window 0 6..7 7 false = 0
        sky 0 = 876  # 14 and 33555 times 8 to the power -7: 876.00002
        """);
    sentence("by exact shares: a little below GLARE or CALM is below", """
        desk 0 0 = 0
        window 1 0 1 false = 0
        window 2..5 0 3 false = 0
        window 6 0 5 false = 0
        window 7 0 6 true = 0
        law 1 1 = 1
        sun 0 0 863 = 1  # times 2430 times 8 to the power -7: 0.99997
        down 7 0 0 = 0
        light 0 0 0 = 0
        sun 0 0 864 = 1  # 1.001
        down 7 0 0 = 1
        sun 1 0 864 = 1
        down 7 0 1 = 1
        sun 1 0 863 = 1
        down 7 0 1 = 0
        """);
  }

  private static void ownCell() {
    sentence("(A DESK in a WINDOW or WALL looks from there alike: its own CELL does not count.)", """
        desk 3 3 = 0
        sun 0 0 1000 = 1
        cell 3 3 1 = 0
        ray 0 0..15 = 5 3 5 3 5 3 4 2 4 2 4 2 4 2 4 3
        sky 0 = 1000
        light 0 0 0 = 1000
        window 3 3 1 true = 1
        ray 0 0..15 = 5 3 5 3 5 3 4 2 4 2 4 2 4 2 4 3
        sky 0 = 1000
        light 0 0 0 = 1000
        """);
    sentence("its own CELL does not count: nor does its BLIND", """
        law 0 0 = 1
        desk 3 3 = 0
        window 3 3 8 true = 0
        sun 0 0 1000 = 1
        down 3 3 0 = 0  # no ray goes there
        desk 1 3 = 1
        down 3 3 0 = 1
        light 0..1 0 0 = 1000 125
        """);
    sentence("its own CELL does not count: the WALL of another DESK does", """
        desk 3 3 = 0
        desk 4 3 = 1
        cell 4 3 1 = 0
        ray 0..1 0 = NONE 4
        ray 0..1 8 = 4 5
        cell 3 3 1 = 0
        ray 0..1 8 = 4 NONE
        """);
  }

  private static void desks() {
    sentence("DESKS are numbered from 0, 4 at most", """
        count 0 = 0
        sky 0 = UNKNOWN
        desk 0 0 = 0
        count 0 = 1
        sky 0..1 = 1000 UNKNOWN
        desk 1 0 = 1
        desk 2 0 = 2
        sky 2..3 = 1000 UNKNOWN
        desk 3 0 = 3
        count 0 = 4
        sky 3..4 = 1000 UNKNOWN
        desk 4 0 = FULL
        count 0 = 4
        ray 0..3 0 = 8 7 6 5
        move 3 7 0 = 1
        desk 4 0 = FULL
        ray 0..3 0 = 8 7 6 1
        """);
    sentence("each in a CELL: in any, and two of them in one", """
        cell 2 2 1 = 0
        window 5 5 1 true = 0
        desk 2 2 = 0
        desk 2 2 = 1
        desk 5 5 = 2
        desk 7 7 = 3
        move 3 5 5 = 1
        ray 0..3 0 = 6 6 3 3
        """);
    sentence("A DESK is moved: 1", """
        move 0 0 0 = UNKNOWN
        desk 0 0 = 0
        move 0 7 7 = 1
        ray 0 0|8 = 1 8
        ray 0 4|12 = 1 8
        move 0 0 7 = 1
        ray 0 0|4 = 8 1
        move 0 0 7 = 1
        move 1|-1 0 0 = UNKNOWN
        move 0 -1|8 0 = UNKNOWN
        move 0 0 -1|8 = UNKNOWN
        ray 0 0|4 = 8 1
        """);
  }

  private static void sky() {
    sentence("1000 times all 16 SHARES together, by 16, cut", """
        desk 3 3 = 0
        sky 0 = 1000
        cell 4 3 1 = 0   # 15: 937.5
        sky 0 = 937
        cell 2 3 1 = 0   # 14
        sky 0 = 875
        cell 3 2 1 = 0   # 13, less 10 and 14 by their sides: 11: 687.5
        sky 0 = 687
        cell 3 4 1 = 0   # 12, less 2, 6, 10 and 14: 8
        sky 0 = 500
        cell 2|4 2|4 1 = 0
        sky 0 = 0
        window 4 3 1 false = 1  # an eighth of one: 7.8; it opens the sides of 1 and 15 as well
        sky 0 = 132
        """);
    sentence("with all BLINDS UP", """
        law 0 0 = 1
        desk 3 3 = 0
        window 4 3 8 true = 0
        sun 0..11 0 1000 = 1
        down 4 3 0..11 = 1
        sky 0 = 1000
        keep = 1
        loss 0 = 0
        """);
  }

  // ---- 2: hours

  private static void hours() {
    sentence("HOURS are 0 .. 11", """
        desk 0 0 = 0
        window 7 7 8 true = 0
        bright 0|11 5 = 1
        light 0 0..11 0 = 5 0 0 0 0 0 0 0 0 0 0 5
        bright -1|12 5 = UNKNOWN
        sun -1|12 0 5 = UNKNOWN
        lose -1|12 = UNKNOWN
        light 0 -1|12 0 = UNKNOWN
        down 7 7 -1|12 = UNKNOWN
        down 7 7 0|11 = 0
        lose 0|11 = 1
        count 2 = 2
        """);
    sentence("BRIGHT (0 .. 1000; 0 at first)", """
        desk 0 0 = 0
        light 0 0..11 0|1 = 0
        bright 3 1000 = 1
        light 0 3 0 = 1000
        bright 3 1001|-1 = OUTSIDE
        light 0 3 0 = 1000
        bright 3 0 = 1
        light 0 3 0 = 0
        """);
    sentence("STRENGTH (1 .. 1000; none at first), (0: it has none)", """
        desk 0 0 = 0
        window 1 0 8 true = 0
        law 0 0 = 1
        down 1 0 0..11 = 0
        sun 3 0 1 = 1
        down 1 0 2..4 = 0 1 0
        sun 3 0 0 = 1
        down 1 0 3 = 0
        sun 3 4 1 = 1
        light 0 3 0 = 1
        sun 3 4 1000 = 1
        light 0 3 0 = 1000
        sun 3 4 1001|-1 = OUTSIDE
        light 0 3 0 = 1000
        """);
    sentence("BRIGHT of an HOUR, that is no more LOST, without THE SUN: 1", """
        desk 0 0 = 0
        bright 3 40 = 1
        sun 3 0 500 = 1
        light 0 3 0 = 540
        bright 3 40 = 1
        light 0 3 0 = 40
        lose 3 = 1
        count 2 = 1
        bright 3 0 = 1
        count 2 = 0
        light 0 3 0|1 = 0
        sun 3 0 500 = 1
        light 0 3 0|1 = 500
        """);
    sentence("sun: NOT: it is LOST", """
        desk 0 0 = 0
        sun 3 0 500 = 1
        lose 3 = 1
        sun 3 0 0|1|1000 = NOT
        light 0 3 0|1 = 0 1000
        bright 3 7 = 1
        light 0 3 0|1 = 7
        sun 3 0 0|1|1000 = 1
        light 0 3 0|1 = 1007
        """);
    sentence("An HOUR is LOST: 1; NOT: it is", """
        lose 0..11 = 1
        count 2 = 12
        lose 0..11 = NOT
        count 2 = 12
        bright 11 0 = 1
        count 2 = 11
        lose 11 = 1
        lose 11 = NOT
        """);
  }

  private static void light() {
    sentence("BRIGHT times all SHARES together, by 16, and STRENGTH times the SHARE, together, cut", """
        desk 3 3 = 0
        window 4 3 4 false = 0
        bright 0 1 = 1
        light 0 0 0 = 0   # 0.96875
        sun 0 0 1 = 1
        light 0 0 0 = 1   # and 0.5
        bright 1 1 = 1
        sun 1 1 1 = 1
        light 0 1 0 = 1   # 1.96875
        bright 2 16 = 1
        sun 2 0 1 = 1
        light 0 2 0 = 16  # 15.5 and 0.5
        """);
    sentence("LIGHT: the least that there is, and the most", """
        desk 3 3 = 0
        light 0 0 0|1 = 0
        bright 0 1000 = 1
        sun 0 9 1000 = 1
        light 0 0 0|1 = 2000
        cell 2..4 2..4 1 = 0
        light 0 0 0|1 = 0
        """);
    sentence("the SHARE of the PATCH of THE SUN, with BLINDS that are DOWN in that HOUR", """
        desk 3 3 = 0
        window 4 3 8 true = 0
        bright 0..2 160 = 1
        sun 0 0 1000 = 1
        sun 1 0 99 = 1
        light 0 0..2 0 = 276 259 160  # 151.25 and 125; 160 and 99
        sun 1 0 100 = 1
        light 0 0..2 0 = 276 163 160  # 151.25 and 12.5
        """);
    sentence("light: the least (end 0), the most (1)", """
        desk 3 3 = 0
        bright 0 77 = 1
        light 0 0 0|1 = 77
        light 0 0 -1|2 = OUTSIDE
        lose 0 = 1
        light 0 0 0|1 = 0 1000
        light 0 0 -1|2 = OUTSIDE
        """);
  }

  private static void lostHours() {
    sentence("in a LOST one it lies from 0 to that with BRIGHT MOST without THE SUN", """
        desk 3 3 = 0
        cell 4 3 1 = 0
        bright 0 500 = 1
        sun 0 4 1000 = 1
        lose 0 = 1
        light 0 0 0|1 = 0 937
        set 0 0 = 1000
        light 0 0 0|1 = 0
        set 0 1 = 0
        light 0 0 0|1 = 0
        set 0 16 = 1
        light 0 0 0|1 = 0 15
        bright 1 500 = 1
        light 0 1 0|1 = 468  # MOST is for lost ones alone
        """);
    sentence("MOST (0 .. 1000; 1000 at first)", """
        desk 0 0 = 0
        lose 0 = 1
        light 0 0 1 = 1000
        set 0 1001|-1 = OUTSIDE
        set 0 0 = 1000
        set 0 1000 = 0
        set 0 999 = 1000
        light 0 0 1 = 999
        """);
    sentence("a LOST HOUR: the most with the BLINDS as they stay", """
        desk 3 3 = 0
        window 4 3 8 true = 0
        sun 4 0 300 = 1
        lose 3|5 = 1
        light 0 3 0|1 = 0 1000
        light 0 5 0|1 = 0 945
        set 0 128 = 1000
        light 0 5 0|1 = 0 121
        """);
  }

  /** A corner, the direction in which it lies from a desk, and the cell of that desk. */
  private static final String[][] CORNERS = {
    {"0 0", "10", "3 3"}, {"7 7", "2", "3 3"}, {"0 7", "6", "4 3"}, {"7 0", "14", "4 3"}
  };

  private static void blindsGoDown() {
    sentence("BLINDS are UP ahead of HOUR 0", """
        desk 3 3 = 0
        window 4 3 8 true = 0
        down 4 3 0 = 0
        sun 0 0 299 = 1  # enough to stay down, too little to go
        down 4 3 0 = 0
        sun 11 0 1000 = 1
        down 4 3 0|11 = 0 1
        lose 0 = 1
        down 4 3 0 = 0
        """);
    sentence("one that is UP goes DOWN, if STRENGTH times SHARE is GLARE or more", """
        desk 3 3 = 0
        window 4 3 8 true = 0
        sun 5 0 299 = 1
        down 4 3 4..6 = 0
        sun 5 0 300 = 1
        down 4 3 4..6 = 0 1 0
        sun 5 0 301 = 1
        down 4 3 5 = 1
        window 4 3 4 true = 2
        sun 5 0 599 = 1  # 299.5
        down 4 3 5 = 0
        sun 5 0 600 = 1
        down 4 3 5 = 1
        window 5 3 7 false = 0
        sun 5 0 685 = 1  # 299.69
        down 4 3 5 = 0
        sun 5 0 686 = 1  # 300.125
        down 4 3 5 = 1
        """);
    sentence("on a RAY from some DESK: of one of four", """
        desk 0 7 = 0
        desk 0 7 = 1
        desk 0 7 = 2
        window 5 3 8 true = 0
        sun 0 0 1000 = 1
        down 5 3 0 = 0
        desk 3 3 = 3
        down 5 3 0 = 1
        move 3 0 7 = 1
        down 5 3 0 = 0
        move 0 3 3 = 1
        down 5 3 0 = 1
        new
        window 5 3 8 true = 0
        sun 0 0 1000 = 1
        law 0 0 = 1
        down 5 3 0 = 0  # no desks, no rays
        """);
    sentence("in the PATCH of THE SUN, that goes to its WINDOW", """
        desk 3 3 = 0
        window 2|4 3 8 true = 0
        window 4 4 8 true = 0
        sun 0 0 1000 = 1
        down 2|4 3 0 = 0 1
        down 4 4 0 = 0
        sun 0 1 1000 = 1  # goes between (4, 3) and (4, 4)
        down 2|4 3 0 = 0
        down 4 4 0 = 0
        sun 0 8 1000 = 1
        down 2|4 3 0 = 1 0
        """);
    sentence("without a SHUT step: beyond the WINDOW, too", """
        law 0 0 = 1
        desk 3 3 = 0
        window 4 3 8 true = 0
        sun 0 0 1000 = 1
        down 4 3 0 = 1
        cell 7 3 1 = 0
        down 4 3 0 = 0
        window 7 3 1 false = 1
        down 4 3 0 = 1
        window 0|7 0|7 8 true = 0
        cell 5 3 1 = 0
        down 4 3 0 = 0
        down 0|7 0|7 0 = 0
        """);
    sentence("SHARE (with all BLINDS UP): one BLIND does not spare another", """
        desk 3 3 = 0
        window 4|5|6 3 8 true = 0
        sun 0|1|2 0 300 = 1
        down 4|5|6 3 0..2 = 1
        light 0 0 0 = 0  # 300 times 8 to the power -3
        sun 1 0 100 = 1
        down 4|5|6 3 0..2 = 1
        sun 1 0 99 = 1
        down 4|5|6 3 0..2 = 1 0 1 1 0 1 1 0 1
        """);
    for (String[] corner : CORNERS) {
      String at = " " + corner[0] + " ";
      sentence("all BLINDS are looked at: in the corner" + at, "desk " + corner[2] + " = 0\n"
          + "window" + at + "8 true = 0\n"
          + "bright 0 16 = 1\n"
          + "law 0 0 = 1\n"
          + "lose 4 = 1\n"
          + "down" + at + "0..11 = 0\n"
          + "sun 5 " + corner[1] + " 80 = 1\n"
          + "down" + at + "0..11 = 0 0 0 0 0 1 0 0 0 0 0 0\n"
          + "sun 0..3 " + corner[1] + " 80 = 1\n"
          + "down" + at + "0..11 = 1 1 1 1 1 1 0 0 0 0 0 0\n"
          + "light 0 0 0 = 25\n"  // 15.125 and 10
          + "sun 0 4 80 = 1\n"
          + "down" + at + "0 = 0\n"
          + "light 0 0 0 = 96\n"
          + "lose 0 = 1\n"
          + "down" + at + "0..1 = 0 1\n");
    }
    sentence("In each HOUR, one after the other, all are looked at", """
        desk 3 3 = 0
        window 4|2 3 8 true = 0
        window 3 2|4 8 true = 0
        sun 0 0 500 = 1
        sun 1 4 500 = 1
        sun 2 8 500 = 1
        sun 3 12 500 = 1
        down 4 3 0..4 = 1 0 0 0 0
        down 3 4 0..4 = 0 1 0 0 0
        down 2 3 0..4 = 0 0 1 0 0
        down 3 2 0..4 = 0 0 0 1 0
        """);
  }

  private static void blindsGoUp() {
    sentence("one that is DOWN goes UP, if on all such RAYS it is below CALM", """
        desk 3 3 = 0
        window 4 3 8 true = 0
        sun 0 0 300 = 1
        sun 1 0 101 = 1
        down 4 3 1 = 1
        sun 1 0 100 = 1
        down 4 3 1 = 1
        sun 1 0 99 = 1
        down 4 3 1 = 0
        window 4 3 4 true = 2
        sun 0 0 600 = 1
        sun 1 0 200 = 1
        down 4 3 1 = 1
        sun 1 0 199 = 1  # 99.5
        down 4 3 1 = 0
        """);
    sentence("goes UP, if on all such RAYS: one that is not calm keeps it DOWN", """
        desk 3 3 = 0
        desk 1 3 = 1
        window 2 3 2 false = 0  # the second desk looks through it
        window 5 3 8 true = 0
        sun 0 0 300 = 1
        sun 1 0 100 = 1
        down 5 3 0..1 = 1  # 100 and 25
        sun 1 0 99 = 1
        down 5 3 0..1 = 1 0
        move 0 0 7 = 1
        sun 0 0 1000 = 1
        down 5 3 0 = 0  # 250
        law 250 100 = 1
        down 5 3 0 = 1
        sun 1 0 400 = 1
        down 5 3 1 = 1
        sun 1 0 399 = 1
        down 5 3 1 = 0  # 99.75
        """);
    sentence("(or there are none)", """
        law 300 0 = 1
        desk 3 3 = 0
        window 4 3 8 true = 0
        sun 0 0 300 = 1
        down 4 3 0..1 = 1 0   # no sun
        sun 1 1 1000 = 1
        down 4 3 1 = 0        # the sun elsewhere
        sun 1 0 1 = 1
        down 4 3 1 = 1        # nothing is below 0
        bright 1 1000 = 1
        down 4 3 1 = 0        # brightness is not the sun
        """);
    sentence("DOWN and UP again, as often as the law says", """
        desk 3 3 = 0
        window 4 3 8 true = 0
        sun 0|2|4|6|8|10 0 300 = 1
        sun 1|3|5|7|9|11 0 99 = 1
        down 4 3 0..11 = 1 0 1 0 1 0 1 0 1 0 1 0
        sun 1|5|9 0 100 = 1
        down 4 3 0..11 = 1 1 1 0 1 1 1 0 1 1 1 0
        sun 2..11 0 299 = 1
        down 4 3 0..11 = 1
        sun 1 0 0 = 1
        down 4 3 0..11 = 1 0 0 0 0 0 0 0 0 0 0 0
        """);
  }

  private static void blindsStay() {
    sentence("In a LOST HOUR they stay", """
        desk 3 3 = 0
        window 4 3 8 true = 0
        sun 2 0 300 = 1
        down 4 3 1..4 = 0 1 0 0
        lose 3 = 1
        down 4 3 1..4 = 0 1 1 0
        sun 4 0 100 = 1
        down 4 3 1..4 = 0 1 1 1
        lose 2 = 1
        down 4 3 1..4 = 0
        lose 4..11 = 1
        bright 2 0 = 1
        sun 2 0 300 = 1
        down 4 3 1..11 = 0 1 1 1 1 1 1 1 1 1 1
        bright 11 0 = 1
        down 4 3 10..11 = 1 0
        """);
    sentence("In a LOST HOUR they stay: what sun it had does not count", """
        desk 3 3 = 0
        window 4 3 8 true = 0
        sun 2|3 0 1000 = 1
        lose 2 = 1
        down 4 3 1..4 = 0 0 1 0
        lose 3 = 1
        down 4 3 1..4 = 0
        """);
    sentence("Whether the BLIND of a CELL is DOWN; NOT: it has none", """
        desk 3 3 = 0
        sun 0 0 1000 = 1
        down 4 3 0 = NOT  # free
        cell 4 3 1 = 0
        down 4 3 0 = NOT
        window 4 3 8 false = 1
        down 4 3 0 = NOT
        window 4 3 8 true = 2
        down 4 3 0 = 1
        cell 4 3 0 = 2
        down 4 3 0 = NOT
        window 4 3 8 true = 0
        down 4 3 0|11 = 1 0
        """);
  }

  private static void law() {
    sentence("(GLARE 0 .. 1000, 300 at first; CALM 0 .. GLARE, 100.): at first", """
        desk 3 3 = 0
        window 4 3 8 true = 0
        sun 0 0 300 = 1
        sun 1 0 100 = 1
        down 4 3 0..1 = 1
        sun 0 0 299 = 1
        down 4 3 0..1 = 0
        sun 0 0 300 = 1
        sun 1 0 99 = 1
        down 4 3 0..1 = 1 0
        """);
    sentence("GLARE 0 .. 1000", """
        desk 3 3 = 0
        window 4 3 8 true = 0
        law 1000 0 = 1
        sun 0 0 999 = 1
        down 4 3 0 = 0
        sun 0 0 1000 = 1
        down 4 3 0 = 1
        law 1001 0 = OUTSIDE
        down 4 3 0 = 1
        law 0 0 = 1
        sun 0 0 1 = 1
        down 4 3 0..1 = 1 0
        window 4 3 1 true = 2
        down 4 3 0 = 1  # an eighth
        law -1 0|-1 = OUTSIDE
        down 4 3 0 = 1
        """);
    sentence("CALM 0 .. GLARE", """
        desk 3 3 = 0
        window 4 3 8 true = 0
        sun 0 0 500 = 1
        sun 1 0 499 = 1
        law 500 500 = 1
        down 4 3 0..1 = 1 0
        law 500 499 = 1
        down 4 3 0..1 = 1
        law 500 501 = OUTSIDE
        down 4 3 0..1 = 1
        law 500 0 = 1
        sun 1 0 1 = 1
        down 4 3 0..1 = 1
        law 500 -1 = OUTSIDE
        law 1000 1000 = 1
        law 1000 1001 = OUTSIDE
        sun 0 0 1000 = 1
        sun 1 0 999 = 1
        down 4 3 0..1 = 1 0
        law 0 0 = 1
        law 0 1 = OUTSIDE
        law 1 1 = 1
        """);
  }

  private static void enough() {
    sentence("HOURS with LIGHT of NEED or more", """
        desk 3 3 = 0
        enough 0 0|1 = 0
        bright 0 299 = 1
        enough 0 0|1 = 0
        bright 0 300 = 1
        enough 0 0|1 = 1
        bright 1..11 300 = 1
        enough 0 0|1 = 12
        cell 4 3 1 = 0
        enough 0 0|1 = 0
        bright 3 320 = 1
        enough 0 0|1 = 1
        bright 3 319 = 1  # 299.06
        enough 0 0|1 = 0
        sun 3 4 1 = 1
        enough 0 0|1 = 1
        """);
    sentence("NEED (0 .. 2000; 300 at first)", """
        desk 3 3 = 0
        set 1 2001|-1 = OUTSIDE
        set 1 2000 = 300
        bright 0 1000 = 1
        sun 0 0 999 = 1
        enough 0 0 = 0
        sun 0 0 1000 = 1
        law 1000 1000 = 1
        enough 0 0 = 1
        set 1 1001 = 2000
        enough 0 0 = 1
        set 1 0 = 1001
        enough 0 0 = 12
        set 1 1 = 0
        enough 0 0 = 1
        """);
    sentence("surely (LOST ones with 0), perhaps (LOST ones with their most)", """
        desk 3 3 = 0
        lose 0..11 = 1
        enough 0 0|1 = 0 12
        set 0 299 = 1000
        enough 0 0|1 = 0
        set 0 300 = 299
        enough 0 0|1 = 0 12
        cell 4 3 1 = 0
        enough 0 0|1 = 0
        set 1 0 = 300
        enough 0 0|1 = 12
        set 1 1 = 0
        enough 0 0|1 = 0 12
        bright 7 2 = 1
        enough 0 0|1 = 1 12
        """);
    sentence("ENOUGH of a DESK: of each its own", """
        desk 3 3 = 0
        desk 0 6 = 1
        cell 4 3 1 = 0
        bright 0..4 310 = 1
        enough 0..1 0 = 0 5
        enough 2|-1 0|1 = UNKNOWN
        enough 0 -1|2 = OUTSIDE
        """);
  }

  // ---- 3: offers, losses

  private static void offers() {
    sentence("OFFERS (5 at most)", """
        count 1 = 0
        offer 0..4 0 8 1 = 0 1 2 3 4
        count 1 = 5
        offer 5 0 8 1 = FULL
        offer 0 0 8 1 = FULL
        count 1 = 5
        make 0 = 0
        count 1 = 0
        offer 0..4 0 8 1 = 0 1 2 3 4
        offer 5 0 8 1 = FULL
        """);
    sentence("with a GLASS, for a PRICE (0 .. 1000)", """
        offer 0 0 1|8 0|1000 = 0 1 2 3
        offer 0 0 0|9 0|1000 = OUTSIDE
        offer 0 0 1|8 -1|1001 = OUTSIDE
        count 1 = 4
        """);
    sentence("without BLIND", """
        desk 3 3 = 0
        cell 4 3 1 = 0
        bright 0 300 = 1
        offer 4 3 8 1000 = 0
        make 1000 = 1
        at 4 3 0..2 = 2 8 0
        down 4 3 0 = NOT
        """);
    sentence("BEST within a BUDGET (0 .. 5000)", """
        desk 3 3 = 0
        cell 2 2..4 1 = 0
        cell 4 3..4 1 = 0
        bright 0 300 = 1
        offer 2 2..4 8 1000 = 0 1 2
        offer 4 3..4 8 1000 = 3 4
        best 5000 0..2 = 31 5000 1
        best 4999 0..2 = 0
        best 0 0..2 = 0
        best -1|5001 0..2 = OUTSIDE
        best 0|5000 -1|3 = OUTSIDE
        make -1|5001 = OUTSIDE
        count 1 = 5
        make 5000 = 31
        """);
  }

  private static void choices() {
    sentence("sets of OFFERS (bits): none of them, too", """
        best 0|5000 0 = 0
        best 0|5000 1 = 0
        best 0|5000 2 = 0
        make 0|5000 = 0
        desk 3 3 = 0
        best 0|5000 2 = 0
        set 1 0 = 300
        best 0|5000 0 = 0
        best 0|5000 2 = 12
        desk 0|1|2 0 = 1 2 3
        best 5000 0..2 = 0 0 48
        """);
    sentence("sets of OFFERS (bits): each of them alone", """
        desk 3 3 = 0
        cell 4 3 1 = 0
        bright 0 300 = 1
        offer 4 3 7 1 = 0
        offer 4 3 7 1 = 1
        offer 4 3 7 1 = 2
        offer 4 3 7 1 = 3
        offer 4 3 8 2 = 4
        best 5000 0..2 = 16 2 1
        make 5000 = 16
        at 4 3 0..2 = 2 8 0
        """);
    sentence("whose CELLS are WALLS now", """
        desk 3 3 = 0
        bright 0 300 = 1
        cell 2 3 1 = 0
        offer 2 3 8 1 = 0
        offer 4 3 8 1 = 1  # free as yet
        best 5000 0..2 = 1 1 1
        cell 4 3 1 = 0
        best 5000 0..2 = 3 2 1
        window 4 3 7 false = 1  # 15.875 of 16 at most: 297
        best 5000 0..2 = 0
        cell 4 3 0 = 2
        best 5000 0..2 = 1 1 1
        cell 2 3 0 = 1
        best 5000 0..2 = 0 0 1
        cell 4 3 1 = 0
        best 5000 0..2 = 2 1 1
        """);
    sentence("no two of one CELL", """
        desk 3 3 = 0
        cell 4 3 1 = 0
        cell 2 3 1 = 0
        bright 0 300 = 1
        offer 4 3 8 10 = 0
        offer 2 3 7 1 = 1
        offer 4 3 7 1 = 2
        offer 2 3 8 10 = 3
        best 5000 0..2 = 9 20 1
        best 19 0..2 = 0
        make 5000 = 9
        at 4|2 3 1 = 8
        """);
    sentence("no two of one CELL: those beside one another are two", """
        desk 3 3 = 0
        cell 4|5 3 1 = 0
        cell 3 4|5 1 = 0
        bright 0 300 = 1
        offer 4|5 3 8 1 = 0 1
        offer 3 4|5 8 1 = 2 3
        best 5000 0..2 = 15 4 1
        best 3 0..2 = 0
        make 0 = 0
        offer 5|4 3 8 1 = 0 1
        offer 3 5|4 8 1 = 2 3
        best 5000 0..2 = 15 4 1
        new
        desk 6 3 = 0
        desk 1 4 = 1
        cell 7 3 1 = 0
        cell 0 4 1 = 0
        bright 0 300 = 1
        offer 7 3 8 1 = 0  # the end of a row
        offer 0 4 8 1 = 1  # and the beginning of the next
        best 5000 0..2 = 3 2 2
        """);
    sentence("each costs its PRICES together", """
        desk 3 3 = 0
        cell 2|4 3 1 = 0
        bright 0 300 = 1
        offer 2 3 8 999 = 0
        offer 0 0 8 5 = 1
        offer 4 3 8 1 = 2
        best 1000 0..2 = 5 1000 1
        best 999 0..2 = 0
        """);
  }

  private static void best() {
    sentence("of CHOICES that cost no more", """
        desk 3 3 = 0
        cell 4 3 1 = 0
        bright 0 300 = 1
        offer 4 3 8 40 = 0
        best 39 0..2 = 0
        best 40 0..2 = 1 40 1
        best 41 0..2 = 1 40 1
        make 39 = 0
        at 4 3 0 = 1
        offer 4 3 8 40 = 0
        make 40 = 1
        at 4 3 0 = 2
        """);
    sentence("by which, if it were made, ENOUGH (surely) of all DESKS together is most", """
        desk 3 3 = 0
        desk 3 6 = 1
        desk 3 6 = 2
        desk 3 6 = 3
        cell 4 3|6 1 = 0
        bright 0 300 = 1
        offer 4 3 8 0 = 0
        offer 4 6 8 1000 = 1
        best 999 0..2 = 1 0 1
        best 1000 0..2 = 3 1000 4
        cell 7 3 1 = 0  # behind the first
        best 1000 0..2 = 2 1000 3
        bright 1..11 300 = 1
        best 1000 0..2 = 2 1000 36
        cell 7 3 0 = 1
        best 1000 0..2 = 3 1000 48
        """);
    sentence("ENOUGH (surely): LOST HOURS do not count", """
        desk 3 3 = 0
        cell 4 3 1 = 0
        bright 0 300 = 1
        set 0 300 = 1000
        lose 1..11 = 1
        offer 4 3 8 7 = 0
        best 5000 0..2 = 1 7 1
        lose 0 = 1
        best 5000 0..2 = 0
        set 1 0 = 300
        best 5000 0..2 = 0 0 12
        """);
    sentence("if it were made: it is not, and OFFERS stay", """
        desk 3 3 = 0
        cell 4 3 1 = 0
        bright 0 300 = 1
        offer 4 3 8 7 = 0
        best 5000 0..2 = 1 7 1
        at 4 3 0..2 = 1 0 0
        count 1 = 1
        ray 0 0 = NONE
        sky 0 = 937
        light 0 0 0 = 281
        enough 0 0 = 0
        best 5000 0..2 = 1 7 1
        """);
    sentence("if it were made: BLINDS would go DOWN by it", """
        desk 3 3 = 0
        window 5 3 8 true = 0
        cell 4 3 1 = 0
        bright 0 300 = 1
        offer 4 3 8 7 = 0
        best 5000 0..2 = 1 7 1
        sun 0 0 299 = 1
        best 5000 0..2 = 1 7 1
        sun 0 0 300 = 1
        best 5000 0..2 = 1 7 1  # 283.59 and 37.5
        set 1 321 = 300
        best 5000 0..2 = 1 7 1
        set 1 322 = 321
        best 5000 0..2 = 0
        down 5 3 0 = 0
        """);
  }

  private static void bestOfSeveral() {
    sentence("of several the cheapest", """
        desk 3 3 = 0
        cell 4 3 1 = 0
        bright 0 310 = 1
        offer 4 3 8 50 = 0
        offer 4 3 5 41 = 1
        offer 4 3 4 40 = 2
        offer 4 3 3 0 = 3
        best 5000 0..2 = 4 40 1
        best 39 0..2 = 0
        bright 1 300 = 1
        best 5000 0..2 = 1 50 2
        best 49 0..2 = 4 40 1
        """);
    sentence("of several the cheapest: none, if OFFERS help nothing", """
        desk 3 3 = 0
        cell 4 3 1 = 0
        offer 4 3 8 1 = 0
        best 5000 0..2 = 0
        bright 0 1000 = 1
        best 5000 0..2 = 0 0 1
        make 5000 = 0
        at 4 3 0 = 1
        count 1 = 0
        """);
    sentence("of several the least number", """
        desk 3 3 = 0
        cell 4 3 1 = 0
        bright 0 300 = 1
        offer 0 0 8 0 = 0
        offer 4 3 8 7 = 1
        offer 4 3 8 7 = 2
        best 5000 0..2 = 2 7 1
        cell 0 0 1 = 0  # the last cell of ray 10
        best 5000 0..2 = 3 7 1
        """);
    sentence("of several the least number: OFFERS for nothing", """
        desk 3 3 = 0
        cell 4 3 1 = 0
        cell 5 0 1 = 0
        cell 0 1 1 = 0
        bright 0 300 = 1
        offer 5 0 8 0 = 0  # on no ray
        offer 0 1 8 0 = 1  # on no ray
        offer 4 3 8 0 = 2
        best 0 0..2 = 4 0 1
        make 0 = 4
        at 5 0 0 = 1
        at 0 1 0 = 1
        at 4 3 0 = 2
        """);
    sentence("the cheapest, ahead of the least number", """
        desk 3 3 = 0
        cell 4 3 1 = 0
        bright 0 300 = 1
        offer 4 3 8 2 = 0
        offer 4 3 8 1 = 1
        best 5000 0..2 = 2 1 1
        """);
  }

  private static void made() {
    sentence("BEST within a BUDGET is made, all OFFERS are gone: the CHOICE", """
        desk 3 3 = 0
        cell 4|2 3 1 = 0
        cell 0 7 1 = 0
        bright 0 300 = 1
        offer 4 3 8 30 = 0
        offer 0 7 8 30 = 1
        offer 2 3 8 30 = 2
        make 60 = 5
        at 4|2 3 0 = 2
        at 4|2 3 1 = 8
        at 0 7 0..2 = 1 0 0
        count 1 = 0
        count 3|4 = 1 2
        enough 0 0 = 1
        best 5000 0..2 = 0 0 1
        make 5000 = 0
        count 3|4 = 1 2
        """);
    sentence("all OFFERS are gone: if none is made, too", """
        desk 3 3 = 0
        cell 4 3 1 = 0
        bright 0 300 = 1
        offer 4 3 8 1 = 0
        make 0 = 0
        count 1 = 0
        best 5000 0..2 = 0
        make 5000 = 0
        at 4 3 0 = 1
        offer 4 3 7 9 = 0
        set 1 290 = 300
        best 5000 0..2 = 1 9 1
        make 9 = 1
        at 4 3 0..2 = 2 7 0
        """);
    sentence("make: it is OUTSIDE, and OFFERS stay", """
        desk 3 3 = 0
        cell 4 3 1 = 0
        bright 0 300 = 1
        offer 4 3 8 1 = 0
        make LOW|5001|HIGH = OUTSIDE
        count 1 = 1
        at 4 3 0 = 1
        make 5000 = 1
        """);
  }

  private static void kept() {
    sentence("KEPT: of how many DESKS", """
        keep = 0
        desk 0 0 = 0
        keep = 1
        desk 1 0 = 1
        desk 2 0 = 2
        keep = 3
        desk 3 0 = 3
        keep = 4
        desk 3 0 = FULL
        keep = 4
        loss 0..3 = 0
        """);
    sentence("The least int: UNKNOWN, NOT: it was not KEPT", """
        loss 0 = LEAST
        loss LOW|4|HIGH = LEAST
        desk 3 3 = 0
        desk 3 4 = 1
        loss 0..2 = LEAST
        new
        keep = 0
        desk 3 3 = 0
        loss 0|1 = LEAST
        keep = 1
        loss 0|1 = 0 LEAST
        desk 3 4 = 1
        loss 0..2 = 0 LEAST LEAST
        keep = 2
        loss 0..2 = 0 0 LEAST
        """);
    sentence("what was KEPT of it less its SKY now (below 0, if it has more now)", """
        desk 3 3 = 0
        keep = 1
        cell 4 3 1 = 0
        loss 0 = 63  # each is cut by itself: 1000 less 937
        cell 2..4 2..4 1 = 0 0 0 0 0 0 0 1 0
        loss 0 = 1000
        loss 0 = 1000
        keep = 1
        loss 0 = 0
        cell 2..4 2..4 0 = 1
        loss 0 = -1000
        """);
    sentence("SKY of all DESKS as they are now is kept: of a DESK that is moved, too", """
        desk 3 3 = 0
        desk 0 0 = 1
        cell 4 3 1 = 0
        keep = 2
        move 0 0 6 = 1
        loss 0..1 = -63 0
        move 1 3 3 = 1
        loss 0..1 = -63 63
        keep = 2
        loss 0..1 = 0
        """);
  }

  private static void counts() {
    sentence("0 DESKS, 1 OFFERS, 2 LOST HOURS, 3 WALLS, 4 WINDOWS", """
        count 0..4 = 0
        cell 0..7 0..7 1 = 0
        count 0..4 = 0 0 0 64 0
        window 0..7 0..7 1 true = 1
        count 0..4 = 0 0 0 0 64
        cell 0..7 0..6 0 = 2
        count 0..4 = 0 0 0 0 8
        lose 0..11 = 1
        count 0..4 = 0 0 12 0 8
        desk 0..3 0 = 0 1 2 3
        offer 0..4 0 1 0 = 0 1 2 3 4
        count 0..4 = 4 5 12 0 8
        count LOW|5|HIGH = OUTSIDE
        """);
  }

  private static void lastCall() {
    sentence("An object is used for at most 512 calls: the last is as good as the first", """
        desk 3 3 = 0
        at 0..7 0..7 0..2 = 0
        cell 0..7 0..7 1 = 0
        window 0..7 0..7 8 true = 1
        cell 0..7 0..7 0 = 2
        light 0 0..11 0|1 = 0
        ray 0 0..15 = 5 3 5 3 5 3 4 2 4 2 4 2 4 2 4 3
        bright 0..11 300 = 1
        enough 0 0|1 = 12
        cell 4 3 1 = 0
        offer 4 3 8 1 = 0
        best 1..70 0 = 1
        make 5000 = 1
        """);
  }

  // ---- refused, and nothing changes

  /** How an object comes about, and calls whose answers tell all that it holds. */
  private record Scene(String made, String shown) {}

  /** Not full, and nothing as at first; each offer brings light enough in an hour of its own. */
  private static final String BUSY_MADE = """
      window 1 3 4 true = 0
      window 3 1 8 true = 0
      window 5 6 2 false = 0
      cell 4 3 1 = 0
      desk 3 3 = 0
      desk 0 6 = 1
      keep = 2
      cell 3 4 1 = 0
      cell 2 2 1 = 0
      cell 1 5 1 = 0
      cell 4 2 1 = 0
      desk 6 1 = 2
      law 400 150 = 1
      set 0 900 = 1000
      set 1 250 = 300
      bright 0|1|6|7|8 50 = 1
      sun 0 0 1000 = 1
      sun 1 4 1000 = 1
      sun 6 10 1000 = 1
      sun 7 6 1000 = 1
      sun 8 14 1000 = 1
      bright 2 500 = 1
      sun 2 12 700 = 1
      sun 3 12 151 = 1
      bright 4 999 = 1
      sun 4 8 900 = 1
      lose 5|9 = 1
      bright 10 281 = 1
      bright 11 77 = 1
      sun 11 0 333 = 1
      offer 4 3 8 200 = 0
      offer 3 4 5 70 = 1
      offer 2 2 3 30 = 2
      offer 1 5 6 90 = 3
      """;

  private static final String FULL_MADE = BUSY_MADE + """
      desk 5 5 = 3
      offer 4 2 4 1000 = 4
      """;

  private static final String SHOWN_FIRST = """
      at 0..7 0..7 0..2
      count 0..4
      best 0|90|300|5000 0..2
      """;

  private static final String SHOWN_OF_DESKS = """
      ray DESKS 0..15
      sky DESKS
      light DESKS 0..11 0|1
      enough DESKS 0|1
      """;

  private static final String SHOWN_OF_BLINDS = """
      down 1 3 0..11
      down 3 1 0..11
      loss 0..1
      """;

  /** What can be told by changes alone: what is offered and the law. */
  private static final String SHOWN_LAST = """
      make 5000
      at 1..4 2..5 1
      set 0..1 300
      bright 0|1 0
      window 3 1 8 true
      sun 0 12 400
      down 3 1 0
      sun 0 12 399
      down 3 1 0
      sun 0 12 300
      down 3 1 0
      sun 0 12 299
      down 3 1 0
      sun 0 12 1000
      sun 1 12 150
      down 3 1 1
      sun 1 12 149
      down 3 1 1
      sun 1 12 100
      down 3 1 1
      sun 1 12 99
      down 3 1 1
      loss 2
      keep
      """;

  // A refused call among these could itself change what it must not, and so hide that another did:
  // the one that there is, loss(2), stands at the end.
  private static final Scene BUSY = new Scene(BUSY_MADE, SHOWN_FIRST
      + SHOWN_OF_DESKS.replace("DESKS", "0..2") + SHOWN_OF_BLINDS + SHOWN_LAST);
  private static final Scene FULL = new Scene(FULL_MADE, SHOWN_FIRST
      + SHOWN_OF_DESKS.replace("DESKS", "0..3") + SHOWN_OF_BLINDS + SHOWN_LAST);
  private static final Scene NEW = new Scene("", SHOWN_FIRST
      + "desk 3 3\n" + SHOWN_OF_DESKS.replace("DESKS", "0") + SHOWN_LAST);

  private static final Map<Scene, List<Integer>> UNTOUCHED = new HashMap<>();

  private static Run made(String words, Scene scene) {
    Run run = new Run(words);
    for (String line : lines(scene.made())) {
      run.take(line);
    }
    return run;
  }

  private static List<Integer> shown(Run run, Scene scene) {
    List<Integer> answers = new ArrayList<>();
    for (String line : lines(scene.shown())) {
      for (Call call : Call.all(line)) {
        answers.add(run.answer(call));
      }
    }
    return answers;
  }

  /** Each call of a text, on an object of its own. */
  private static void refused(String words, Scene scene, String text) {
    sentences++;
    List<Integer> untouched =
        UNTOUCHED.computeIfAbsent(scene, s -> shown(made(words, s), s));
    for (String line : lines(text)) {
      String[] sides = line.split("=");
      for (Call call : Call.all(sides[0])) {
        Run run = made(words, scene);
        run.due(call, number(sides[1].trim()));
        asked++;
        if (!shown(run, scene).equals(untouched)) {
          fault(words, call.text() + " was refused, and changed something");
        }
      }
    }
  }

  private static void refusedInThePlan() {
    refused("cell: UNKNOWN; OUTSIDE", BUSY, """
        cell LOW|8|64|HIGH 3 0|1 = UNKNOWN
        cell 3 LOW|8|64|HIGH 0|1 = UNKNOWN
        cell 4 3 LOW|2|3|HIGH = OUTSIDE
        cell 1 3 -1|2 = OUTSIDE
        cell 0 0 -1|2 = OUTSIDE
        """);
    refused("window: UNKNOWN; OUTSIDE", BUSY, """
        window LOW|8|64|HIGH 3 8 true|false = UNKNOWN
        window 3 LOW|8|64|HIGH 8 true|false = UNKNOWN
        window 4 3 LOW|0|9|16|HIGH true|false = OUTSIDE
        window 1 3 0|9 true|false = OUTSIDE
        window 0 0 0|9 true|false = OUTSIDE
        """);
    refused("at: UNKNOWN; OUTSIDE", BUSY, """
        at LOW|8|64|HIGH 3 0..2 = UNKNOWN
        at 3 LOW|8|64|HIGH 0..2 = UNKNOWN
        at 1 3 LOW|3|4|HIGH = OUTSIDE
        """);
    refused("desk: UNKNOWN", BUSY, """
        desk LOW|8|64|HIGH 3 = UNKNOWN
        desk 3 LOW|8|64|HIGH = UNKNOWN
        """);
    refused("desk: FULL", FULL, """
        desk 0..7 0|7 = FULL
        """);
    refused("move: UNKNOWN: DESK, CELL", BUSY, """
        move LOW|3|4|HIGH 5 5 = UNKNOWN
        move 0..2 LOW|8|64|HIGH 5 = UNKNOWN
        move 0..2 5 LOW|8|64|HIGH = UNKNOWN
        move 0 8 8 = UNKNOWN
        move 3 8 8 = UNKNOWN
        """);
    refused("move: UNKNOWN: with 4 DESKS", FULL, """
        move -1|4|5 5 5 = UNKNOWN
        move 3 5 8 = UNKNOWN
        move 3 8 5 = UNKNOWN
        """);
    refused("ray: UNKNOWN", BUSY, """
        ray LOW|3|4|HIGH 0|15 = UNKNOWN
        ray 0|2 LOW|16|17|HIGH = UNKNOWN
        """);
    refused("sky: UNKNOWN", BUSY, """
        sky LOW|3|4|HIGH = UNKNOWN
        """);
    refused("sky: UNKNOWN: with 4 DESKS", FULL, """
        sky -1|4|5 = UNKNOWN
        """);
  }

  private static void refusedInHours() {
    refused("bright: UNKNOWN; OUTSIDE", BUSY, """
        bright LOW|12|16|HIGH 0|500 = UNKNOWN
        bright 0|2|5|11 LOW|1001|HIGH = OUTSIDE
        """);
    refused("sun: UNKNOWN; OUTSIDE; NOT: it is LOST", BUSY, """
        sun LOW|12|16|HIGH 12 0|500 = UNKNOWN
        sun 2|4|11 LOW|16|17|HIGH 0|500 = UNKNOWN
        sun 2|4|11 0|5 LOW|1001|HIGH = OUTSIDE
        sun 5|9 0|12 0|1|1000 = NOT
        """);
    refused("lose: UNKNOWN; NOT: it is", BUSY, """
        lose LOW|12|16|HIGH = UNKNOWN
        lose 5|9 = NOT
        """);
    refused("set: OUTSIDE", BUSY, """
        set 0 LOW|1001|2000|HIGH = OUTSIDE
        set 1 LOW|2001|HIGH = OUTSIDE
        set LOW|2|3|HIGH 0|500 = OUTSIDE
        """);
    refused("law: OUTSIDE: also CALM above GLARE", BUSY, """
        law LOW|1001|HIGH 0|99 = OUTSIDE
        law 399|1000 LOW|1001|HIGH = OUTSIDE
        law 0..3 4 = OUTSIDE
        law 299 300 = OUTSIDE
        law 400 401 = OUTSIDE
        law 999 1000 = OUTSIDE
        law -1 -1 = OUTSIDE
        law 1001 1001 = OUTSIDE
        """);
    refused("down: UNKNOWN; NOT: it has none", BUSY, """
        down LOW|8|64|HIGH 3 0|11 = UNKNOWN
        down 3 LOW|8|64|HIGH 0|11 = UNKNOWN
        down 1 3 LOW|12|16|HIGH = UNKNOWN
        down 0 0 0|11 = NOT
        down 4 3 0|11 = NOT
        down 5 6 0|11 = NOT
        """);
    refused("light: UNKNOWN; OUTSIDE", BUSY, """
        light LOW|3|4|HIGH 0|5 0|1 = UNKNOWN
        light 0 LOW|12|16|HIGH 0|1 = UNKNOWN
        light 0|2 2|5 LOW|2|3|HIGH = OUTSIDE
        """);
    refused("enough: UNKNOWN; OUTSIDE", BUSY, """
        enough LOW|3|4|HIGH 0|1 = UNKNOWN
        enough 0|2 LOW|2|3|HIGH = OUTSIDE
        """);
  }

  private static void refusedOffers() {
    refused("offer: UNKNOWN; OUTSIDE", BUSY, """
        offer LOW|8|64|HIGH 3 8 0 = UNKNOWN
        offer 3 LOW|8|64|HIGH 8 0 = UNKNOWN
        offer 4 3 LOW|0|9|16|HIGH 0|1000 = OUTSIDE
        offer 4 3 1|8 LOW|1001|HIGH = OUTSIDE
        """);
    refused("offer: FULL", FULL, """
        offer 4 3 8 0|1000 = FULL
        offer 0|7 0|7 1|8 0 = FULL
        """);
    refused("best: OUTSIDE", FULL, """
        best LOW|5001|HIGH 0..2 = OUTSIDE
        best 0|5000 LOW|3|4|HIGH = OUTSIDE
        """);
    refused("make: OUTSIDE", FULL, """
        make LOW|5001|HIGH = OUTSIDE
        """);
    refused("The least int: UNKNOWN, NOT: it was not KEPT", BUSY, """
        loss LOW|2|3|4|HIGH = LEAST
        """);
    refused("The least int: UNKNOWN, NOT: with 4 DESKS", FULL, """
        loss -1|2|3|4|5 = LEAST
        """);
    refused("count: OUTSIDE", FULL, """
        count LOW|5|6|HIGH = OUTSIDE
        """);
  }

  private static void firstThatFits() {
    refused("the first of these that fits: UNKNOWN ahead of OUTSIDE", BUSY, """
        cell -1|8 3 -1|2 = UNKNOWN
        cell 3 -1|8 -1|2 = UNKNOWN
        window -1|8 3 0|9 true|false = UNKNOWN
        window 3 -1|8 0|9 true|false = UNKNOWN
        at -1|8 3 -1|3 = UNKNOWN
        at 3 -1|8 -1|3 = UNKNOWN
        bright -1|12 -1|1001 = UNKNOWN
        sun -1|12 0 -1|1001 = UNKNOWN
        sun 2|3 -1|16 -1|1001 = UNKNOWN
        light -1|3 0 -1|2 = UNKNOWN
        light 0 -1|12 -1|2 = UNKNOWN
        enough -1|3 -1|2 = UNKNOWN
        offer -1|8 3 0|9 0 = UNKNOWN
        offer 3 -1|8 0|9 0 = UNKNOWN
        offer -1|8 3 8 -1|1001 = UNKNOWN
        offer 3 -1|8 8 -1|1001 = UNKNOWN
        """);
    refused("the first of these that fits: UNKNOWN ahead of NOT", BUSY, """
        sun 5|9 -1|16 0|500 = UNKNOWN
        sun 5|9 -1|16 -1|1001 = UNKNOWN
        down 0 0 -1|12 = UNKNOWN
        down 4 3 -1|12 = UNKNOWN
        down 5 6 -1|12 = UNKNOWN
        down -1|8 3 -1|12 = UNKNOWN
        """);
    refused("the first of these that fits: OUTSIDE ahead of NOT", BUSY, """
        sun 5|9 0|12 -1|1001 = OUTSIDE
        """);
    refused("the first of these that fits: UNKNOWN ahead of FULL", FULL, """
        desk -1|8 3 = UNKNOWN
        desk 3 -1|8 = UNKNOWN
        offer -1|8 3 8 0 = UNKNOWN
        offer 3 -1|8 8 0 = UNKNOWN
        offer 3 -1|8 0|9 -1|1001 = UNKNOWN
        """);
    refused("the first of these that fits: OUTSIDE ahead of FULL", FULL, """
        offer 4 3 0|9 0 = OUTSIDE
        offer 4 3 8 -1|1001 = OUTSIDE
        """);
  }

  private static void refusedWhenNew() {
    refused("FREE CELLS, no DESKS", NEW, """
        move 0 0 0 = UNKNOWN
        ray 0 0 = UNKNOWN
        sky 0 = UNKNOWN
        light 0 0 0..1 = UNKNOWN
        light 0 0 2 = UNKNOWN
        enough 0 0..1 = UNKNOWN
        enough 0 2 = UNKNOWN
        loss 0 = LEAST
        down 0 0 0 = NOT
        cell 0 0 2 = OUTSIDE
        window 0 0 0|9 true = OUTSIDE
        offer 0 0 0|9 0 = OUTSIDE
        best -1|5001 0 = OUTSIDE
        make -1|5001 = OUTSIDE
        law 100 101 = OUTSIDE
        set 0 1001 = OUTSIDE
        """);
  }
}
