import java.lang.reflect.Method;
import java.math.BigDecimal;
import java.math.RoundingMode;
import java.util.ArrayList;
import java.util.Arrays;
import java.util.HashMap;
import java.util.HashSet;
import java.util.List;
import java.util.Map;
import java.util.Random;
import java.util.Set;
import java.util.stream.IntStream;
import java.util.stream.Stream;

/**
 * Runs of calls, drawn with fixed seeds, on the class and on a slow model of the document that shares
 * no way of working with it: shares are decimals, each blind is looked at by itself, and a choice is
 * tried on a copy.
 */
public final class DayLightModel {
  private static final int RUNS = 600;
  private static final int CALLS = 512;

  private static int asked = 0;
  private static int wrong = 0;

  public static void main(String[] args) {
    for (int seed = 0; seed < RUNS && wrong < 20; seed++) {
      run(seed);
    }
    System.out.println(asked + " answers, " + wrong + " wrong");
    if (wrong != 0) {
      System.exit(1);
    }
  }

  private static void run(int seed) {
    Random random = new Random(seed);
    DayLight real = new DayLight();
    Model model = new Model();
    List<String> calls = new ArrayList<>();
    int scene = 20 + random.nextInt(60);
    for (int i = 0; i < CALLS; i++) {
      String name = i < scene ? Call.SCENE[random.nextInt(Call.SCENE.length)]
          : Call.NAMES[random.nextInt(Call.NAMES.length)];
      Call call = Call.draw(random, name, model);
      calls.add(call.text());
      long got = call.on(real);
      long want = call.on(model);
      asked++;
      if (got != want) {
        wrong++;
        System.out.println("seed " + seed + ", call " + i + ": " + call.text() + " answered " + got
            + ", due is " + want + "; the calls: " + calls);
        return;
      }
    }
  }

  /** A call with its numbers, mostly within their ranges. */
  private static final class Call {
    /** What a run begins with, so that there is something to look at. */
    private static final String[] SCENE = {
      "cell", "cell", "window", "window", "desk", "bright", "sun", "sun", "offer", "law", "set"
    };
    private static final String[] NAMES = {
      "cell", "cell", "window", "window", "at", "desk", "move", "ray", "sky", "bright", "sun", "sun",
      "sun", "lose", "set", "law", "down", "down", "down", "light", "light", "light", "enough",
      "enough", "offer", "offer", "best", "best", "best", "make", "keep", "loss", "count"
    };
    private final String name;
    private final Object[] numbers;

    private Call(String name, Object... numbers) {
      this.name = name;
      this.numbers = numbers;
    }

    private String text() {
      return name + Arrays.toString(numbers);
    }

    /** The class and the model have no type in common, but calls of the same names. */
    private int on(Object object) {
      for (Method method : object.getClass().getDeclaredMethods()) {
        if (method.getName().equals(name)) {
          try {
            return (Integer) method.invoke(object, numbers);
          } catch (ReflectiveOperationException e) {
            throw new IllegalStateException(text(), e);
          }
        }
      }
      throw new IllegalStateException("no such call: " + name);
    }

    /** 0 .. below, now and then a little or far beside it. */
    private static int near(Random random, int below) {
      int chance = random.nextInt(60);
      if (chance == 0) {
        return -1;
      }
      if (chance == 1) {
        return below;
      }
      if (chance == 2 && random.nextInt(4) == 0) {
        return random.nextInt();
      }
      return random.nextInt(below);
    }

    /** Half of the numbers are those at which the law, the need and the prices turn. */
    private static int measure(Random random, int most) {
      int[] edges = {0, 1, 100, 125, 250, 299, 300, 301, 500, 600, 800, 1000, most};
      return random.nextBoolean() ? near(random, most + 1)
          : Math.min(most, edges[random.nextInt(edges.length)]);
    }

    /** A cell on a ray of a desk, since few cells are seen by chance. */
    private static Spot seen(Random random, Model model) {
      if (model.desks.isEmpty() || random.nextInt(4) == 0) {
        return new Spot(near(random, 8), near(random, 8));
      }
      Spot step = Model.STEPS[random.nextInt(16)];
      int far = 1 + random.nextInt(3);
      return model.desks.get(random.nextInt(model.desks.size())).on(step.x() * far, step.y() * far);
    }

    /** One of some cells, now and then another. */
    private static Spot among(Random random, List<Spot> spots) {
      if (spots.isEmpty() || random.nextInt(8) == 0) {
        return new Spot(near(random, 8), near(random, 8));
      }
      return spots.get(random.nextInt(spots.size()));
    }

    /** Most often a patch in which some desk looks through a window. */
    private static int patch(Random random, Model model) {
      int patch = near(random, 16);
      for (int tries = 0; tries < 20 && !model.desks.isEmpty(); tries++) {
        int tried = random.nextInt(16);
        Way way = model.way(random.nextInt(model.desks.size()), tried);
        if (way != null && !way.windows().isEmpty()) {
          return tried;
        }
      }
      return patch;
    }

    private static Call draw(Random random, String name, Model model) {
      boolean flag = random.nextInt(4) != 0;
      int hour = near(random, 12);
      int desk = near(random, 4);
      Spot any = new Spot(near(random, 8), near(random, 8));
      Spot seen = seen(random, model);
      int glass = random.nextBoolean() ? near(random, 9) : 8;
      switch (name) {
        case "cell":
          return new Call(name, seen.x(), seen.y(), random.nextInt(3) == 0 ? 0 : near(random, 2));
        case "window": return new Call(name, seen.x(), seen.y(), glass, flag);
        case "at": return new Call(name, seen.x(), seen.y(), near(random, 3));
        case "desk": return new Call(name, any.x(), any.y());
        case "move": return new Call(name, desk, any.x(), any.y());
        case "ray": return new Call(name, desk, near(random, 16));
        case "sky": case "loss": return new Call(name, desk);
        case "bright": return new Call(name, hour, measure(random, 1000));
        case "sun": return new Call(name, hour, patch(random, model), measure(random, 1000));
        case "lose": return new Call(name, hour);
        case "set": return new Call(name, near(random, 2), measure(random, 600));
        case "law": return new Call(name, measure(random, 500), measure(random, 300));
        case "down":
          Spot blind = among(random, model.blinds());
          return new Call(name, blind.x(), blind.y(), hour);
        case "light": return new Call(name, desk, hour, near(random, 2));
        case "enough": return new Call(name, desk, near(random, 2));
        case "offer":
          Spot wall = among(random, model.sortedWalls());
          return new Call(name, wall.x(), wall.y(), glass, random.nextInt(4) * 50);
        case "best": return new Call(name, measure(random, 400), near(random, 3));
        case "make":
          return new Call(name, random.nextInt(3) == 0 ? measure(random, 400) : -1);
        case "count": return new Call(name, near(random, 5));
        default: return new Call(name);
      }
    }
  }

  private record Spot(int x, int y) {
    private Spot on(int dx, int dy) {
      return new Spot(x + dx, y + dy);
    }

    private boolean inPlan() {
      return 0 <= x && x <= 7 && 0 <= y && y <= 7;
    }
  }

  private record Pane(int glass, boolean blind) {}

  private record Hour(int bright, int patch, int strength, boolean lost) {}

  private record Bid(Spot spot, int glass, int price) {}

  /** The windows that a ray goes to, or none at all (null) if a step is shut. */
  private record Way(List<Spot> windows, int steps) {}

  private static final class Model {
    private static final BigDecimal EIGHTH = new BigDecimal("0.125");
    private static final BigDecimal SIXTEENTH = new BigDecimal("0.0625");
    private static final Spot[] STEPS = {
      new Spot(1, 0), new Spot(2, 1), new Spot(1, 1), new Spot(1, 2), new Spot(0, 1),
      new Spot(-1, 2), new Spot(-1, 1), new Spot(-2, 1), new Spot(-1, 0), new Spot(-2, -1),
      new Spot(-1, -1), new Spot(-1, -2), new Spot(0, -1), new Spot(1, -2), new Spot(1, -1),
      new Spot(2, -1)
    };

    private final Set<Spot> walls = new HashSet<>();
    private final Map<Spot, Pane> panes = new HashMap<>();
    private final List<Spot> desks = new ArrayList<>();
    private final List<Hour> hours = new ArrayList<>();
    private final List<Bid> bids = new ArrayList<>();
    private final List<Integer> kept = new ArrayList<>();
    private int most = 1000;
    private int need = 300;
    private int glare = 300;
    private int calm = 100;

    private Model() {
      for (int hour = 0; hour < 12; hour++) {
        hours.add(new Hour(0, 0, 0, false));
      }
    }

    private Model copy() {
      Model m = new Model();
      m.walls.addAll(walls);
      m.panes.putAll(panes);
      m.desks.addAll(desks);
      m.hours.clear();
      m.hours.addAll(hours);
      m.most = most;
      m.need = need;
      m.glare = glare;
      m.calm = calm;
      return m;
    }

    private List<Spot> sortedWalls() {
      return allSpots().filter(walls::contains).toList();
    }

    private List<Spot> blinds() {
      return allSpots().filter(s -> panes.containsKey(s) && panes.get(s).blind()).toList();
    }

    private static Stream<Spot> allSpots() {
      return IntStream.range(0, 64).mapToObj(n -> new Spot(n % 8, n / 8));
    }

    private static boolean noHour(int hour) {
      return hour < 0 || hour > 11;
    }

    private boolean noDesk(int desk) {
      return desk < 0 || desk >= desks.size();
    }

    private int kind(Spot spot) {
      return walls.contains(spot) ? 1 : panes.containsKey(spot) ? 2 : 0;
    }

    private int cell(int x, int y, int kind) {
      Spot spot = new Spot(x, y);
      if (!spot.inPlan()) return -2;
      if (kind < 0 || kind > 1) return -3;
      int was = kind(spot);
      walls.remove(spot);
      panes.remove(spot);
      if (kind == 1) walls.add(spot);
      return was;
    }

    private int window(int x, int y, int glass, boolean blind) {
      Spot spot = new Spot(x, y);
      if (!spot.inPlan()) return -2;
      if (glass < 1 || glass > 8) return -3;
      int was = kind(spot);
      walls.remove(spot);
      panes.put(spot, new Pane(glass, blind));
      return was;
    }

    private int at(int x, int y, int what) {
      Spot spot = new Spot(x, y);
      if (!spot.inPlan()) return -2;
      if (what < 0 || what > 2) return -3;
      if (what == 0) return kind(spot);
      Pane pane = panes.get(spot);
      if (pane == null) return 0;
      return what == 1 ? pane.glass() : pane.blind() ? 1 : 0;
    }

    private int desk(int x, int y) {
      Spot spot = new Spot(x, y);
      if (!spot.inPlan()) return -2;
      if (desks.size() == 4) return -5;
      desks.add(spot);
      return desks.size() - 1;
    }

    private int move(int desk, int x, int y) {
      Spot spot = new Spot(x, y);
      if (noDesk(desk) || !spot.inPlan()) return -2;
      desks.set(desk, spot);
      return 1;
    }

    private boolean shut(Spot from, Spot step) {
      int dx = step.x();
      int dy = step.y();
      if (walls.contains(from.on(dx, dy))) return true;
      if (dx == 0 || dy == 0) return false;
      Spot one;
      Spot two;
      if (Math.abs(dx) == Math.abs(dy)) {
        one = from.on(dx, 0);
        two = from.on(0, dy);
      } else if (Math.abs(dx) == 2) {
        one = from.on(dx / 2, 0);
        two = from.on(dx / 2, dy);
      } else {
        one = from.on(0, dy / 2);
        two = from.on(dx, dy / 2);
      }
      return walls.contains(one) && walls.contains(two);
    }

    private Way way(int desk, int patch) {
      Spot step = STEPS[patch];
      List<Spot> met = new ArrayList<>();
      int steps = 0;
      for (Spot at = desks.get(desk); at.inPlan(); at = at.on(step.x(), step.y())) {
        if (steps > 0 && panes.containsKey(at)) met.add(at);
        if (shut(at, step)) return null;
        steps++;
      }
      return new Way(met, steps);
    }

    private int ray(int desk, int patch) {
      if (noDesk(desk) || patch < 0 || patch > 15) return -2;
      Way way = way(desk, patch);
      return way == null ? -1 : way.steps();
    }

    /** With the blinds of an hour; hour -1: all up. */
    private BigDecimal share(int desk, int patch, int hour) {
      Way way = way(desk, patch);
      if (way == null) return BigDecimal.ZERO;
      BigDecimal share = BigDecimal.ONE;
      for (Spot spot : way.windows()) {
        Pane pane = panes.get(spot);
        boolean drawn = hour >= 0 && pane.blind() && drawn(spot, hour);
        share = share.multiply(EIGHTH.multiply(BigDecimal.valueOf(drawn ? 1 : pane.glass())));
      }
      return share;
    }

    private BigDecimal allShares(int desk, int hour) {
      BigDecimal sum = BigDecimal.ZERO;
      for (int patch = 0; patch < 16; patch++) {
        sum = sum.add(share(desk, patch, hour));
      }
      return sum;
    }

    private static int cut(BigDecimal v) {
      return v.setScale(0, RoundingMode.FLOOR).intValueExact();
    }

    private int sky(int desk) {
      if (noDesk(desk)) return -2;
      return cut(allShares(desk, -1).multiply(BigDecimal.valueOf(1000)).multiply(SIXTEENTH));
    }

    private int bright(int hour, int v) {
      if (noHour(hour)) return -2;
      if (v < 0 || v > 1000) return -3;
      hours.set(hour, new Hour(v, 0, 0, false));
      return 1;
    }

    private int sun(int hour, int patch, int strength) {
      if (noHour(hour) || patch < 0 || patch > 15) return -2;
      if (strength < 0 || strength > 1000) return -3;
      Hour was = hours.get(hour);
      if (was.lost()) return -4;
      hours.set(hour, new Hour(was.bright(), patch, strength, false));
      return 1;
    }

    private int lose(int hour) {
      if (noHour(hour)) return -2;
      if (hours.get(hour).lost()) return -4;
      hours.set(hour, new Hour(0, 0, 0, true));
      return 1;
    }

    private int set(int what, int v) {
      if (what < 0 || what > 1 || v < 0 || v > (what == 0 ? 1000 : 2000)) return -3;
      int was = what == 0 ? most : need;
      if (what == 0) most = v;
      else need = v;
      return was;
    }

    private int law(int newGlare, int newCalm) {
      if (newGlare < 0 || newGlare > 1000 || newCalm < 0 || newCalm > newGlare) return -3;
      glare = newGlare;
      calm = newCalm;
      return 1;
    }

    private boolean drawn(Spot window, int last) {
      boolean drawn = false;
      for (int hour = 0; hour <= last; hour++) {
        Hour h = hours.get(hour);
        if (h.lost()) continue;
        List<BigDecimal> lights = new ArrayList<>();
        for (int desk = 0; desk < desks.size() && h.strength() > 0; desk++) {
          Way way = way(desk, h.patch());
          if (way != null && way.windows().contains(window)) {
            lights.add(share(desk, h.patch(), -1).multiply(BigDecimal.valueOf(h.strength())));
          }
        }
        if (drawn) {
          boolean allCalm = true;
          for (BigDecimal light : lights) {
            allCalm &= light.compareTo(BigDecimal.valueOf(calm)) < 0;
          }
          drawn = !allCalm;
        } else {
          for (BigDecimal light : lights) {
            drawn |= light.compareTo(BigDecimal.valueOf(glare)) >= 0;
          }
        }
      }
      return drawn;
    }

    private int down(int x, int y, int hour) {
      Spot spot = new Spot(x, y);
      if (!spot.inPlan() || noHour(hour)) return -2;
      Pane pane = panes.get(spot);
      if (pane == null || !pane.blind()) return -4;
      return drawn(spot, hour) ? 1 : 0;
    }

    private int light(int desk, int hour, int end) {
      if (noDesk(desk) || noHour(hour)) return -2;
      if (end < 0 || end > 1) return -3;
      Hour h = hours.get(hour);
      if (h.lost() && end == 0) return 0;
      BigDecimal sky = allShares(desk, hour).multiply(SIXTEENTH);
      if (h.lost()) return cut(sky.multiply(BigDecimal.valueOf(most)));
      BigDecimal light = sky.multiply(BigDecimal.valueOf(h.bright()));
      if (h.strength() > 0) {
        light = light.add(share(desk, h.patch(), hour).multiply(BigDecimal.valueOf(h.strength())));
      }
      return cut(light);
    }

    private int enough(int desk, int end) {
      if (noDesk(desk)) return -2;
      if (end < 0 || end > 1) return -3;
      int enough = 0;
      for (int hour = 0; hour < 12; hour++) {
        if (light(desk, hour, end) >= need) enough++;
      }
      return enough;
    }

    private int offer(int x, int y, int glass, int price) {
      Spot spot = new Spot(x, y);
      if (!spot.inPlan()) return -2;
      if (glass < 1 || glass > 8 || price < 0 || price > 1000) return -3;
      if (bids.size() == 5) return -5;
      bids.add(new Bid(spot, glass, price));
      return bids.size() - 1;
    }

    /** What the plan is like by a choice; null: it is none. */
    private Model by(int choice) {
      Model m = copy();
      for (int i = 0; i < bids.size(); i++) {
        if ((choice >> i & 1) == 1) {
          Bid bid = bids.get(i);
          // A second offer of a cell finds a window there, so this refuses two of one cell too.
          if (!m.walls.contains(bid.spot())) return null;
          m.window(bid.spot().x(), bid.spot().y(), bid.glass(), false);
        }
      }
      return m;
    }

    private int price(int choice) {
      int price = 0;
      for (int i = 0; i < bids.size(); i++) {
        price += (choice >> i & 1) * bids.get(i).price();
      }
      return price;
    }

    private int[] bestWithin(int budget) {
      int[] best = null;
      for (int choice = (1 << bids.size()) - 1; choice >= 0; choice--) {
        int price = price(choice);
        Model m = by(choice);
        if (m == null || price > budget) continue;
        int enough = 0;
        for (int desk = 0; desk < desks.size(); desk++) {
          enough += m.enough(desk, 0);
        }
        if (best == null || enough > best[2] || enough == best[2] && price <= best[1]) {
          best = new int[] {choice, price, enough};
        }
      }
      return best;
    }

    private int best(int budget, int what) {
      if (budget < 0 || budget > 5000 || what < 0 || what > 2) return -3;
      return bestWithin(budget)[what];
    }

    private int make(int budget) {
      if (budget < 0 || budget > 5000) return -3;
      int choice = bestWithin(budget)[0];
      Model m = by(choice);
      walls.clear();
      walls.addAll(m.walls);
      panes.clear();
      panes.putAll(m.panes);
      bids.clear();
      return choice;
    }

    private int keep() {
      kept.clear();
      for (int desk = 0; desk < desks.size(); desk++) {
        kept.add(sky(desk));
      }
      return kept.size();
    }

    private int loss(int desk) {
      if (noDesk(desk) || desk >= kept.size()) return Integer.MIN_VALUE;
      return kept.get(desk) - sky(desk);
    }

    private int count(int what) {
      switch (what) {
        case 0: return desks.size();
        case 1: return bids.size();
        case 2: return (int) hours.stream().filter(Hour::lost).count();
        case 3: return walls.size();
        case 4: return panes.size();
        default: return -3;
      }
    }
  }
}
