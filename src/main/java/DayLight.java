/**
 * Light by day: desks in a plan of walls and windows, lit by sixteen patches of sky and the sun.
 *
 * <p>Rays, blinds and light are not kept from call to call: a call that asks for them works them
 * out from the plan, the desks and the hours as they are then, in rows that the constructor made.
 */
public final class DayLight {
  public static final int NONE = -1, UNKNOWN = -2, OUTSIDE = -3, NOT = -4, FULL = -5;

  private static final int SIDE = 8;
  private static final int CELLS = SIDE * SIDE;
  private static final int PATCHES = 16;
  private static final int HOURS = 12;
  private static final int MOST_DESKS = 4;
  private static final int MOST_OFFERS = 5;

  private static final int FREE = 0;
  private static final int WALL = 1;
  private static final int WINDOW = 2;

  private static final int EIGHTHS = 8;
  private static final int MOST_BRIGHT = 1000;
  private static final int MOST_STRENGTH = 1000;
  private static final int MOST_NEED = 2000;
  private static final int MOST_GLARE = 1000;
  private static final int MOST_PRICE = 1000;
  private static final int MOST_BUDGET = 5000;

  private static final int LEAST_END = 0;
  private static final int MOST_END = 1;

  /** What loss answers where no loss can be told, since every small number may be a loss. */
  private static final int NO_LOSS = -2147483648;

  /**
   * The share 1, as the count of the smallest parts that a share can have: a ray goes to seven
   * cells of the plan at most, so 8 to the power 7 of them keep every share exact.
   */
  private static final long WHOLE = 2097152L;

  private static final int[] STEP_X = {1, 2, 1, 1, 0, -1, -1, -2, -1, -2, -1, -1, 0, 1, 1, 2};
  private static final int[] STEP_Y = {0, 1, 1, 2, 1, 2, 1, 1, 0, -1, -1, -2, -1, -2, -1, -1};

  private final Plan plan;
  private final Desks desks;
  private final Hours hours;
  private final Rays rays;
  private final Blinds blinds;
  private final Offers offers;
  private final Found found;

  public DayLight() {
    plan = new Plan();
    desks = new Desks();
    hours = new Hours();
    rays = new Rays();
    blinds = new Blinds();
    offers = new Offers();
    found = new Found();
  }

  // ---- the plan

  public int cell(int x, int y, int kind) {
    if (!isCell(x, y)) {
      return UNKNOWN;
    }
    if (kind != FREE && kind != WALL) {
      return OUTSIDE;
    }
    return plan.put(cellNumber(x, y), kind, 0, false);
  }

  public int window(int x, int y, int glass, boolean blind) {
    if (!isCell(x, y)) {
      return UNKNOWN;
    }
    if (!isWithin(glass, 1, EIGHTHS)) {
      return OUTSIDE;
    }
    return plan.put(cellNumber(x, y), WINDOW, glass, blind);
  }

  public int at(int x, int y, int what) {
    if (!isCell(x, y)) {
      return UNKNOWN;
    }
    int cell = cellNumber(x, y);
    switch (what) {
      case 0:
        return plan.kinds[cell];
      case 1:
        return plan.glasses[cell];
      case 2:
        return plan.hasBlind(cell) ? 1 : 0;
      default:
        return OUTSIDE;
    }
  }

  public int desk(int x, int y) {
    if (!isCell(x, y)) {
      return UNKNOWN;
    }
    if (desks.number >= MOST_DESKS) {
      return FULL;
    }
    int desk = desks.number;
    desks.number++;
    desks.put(desk, x, y);
    return desk;
  }

  public int move(int desk, int x, int y) {
    if (!desks.has(desk) || !isCell(x, y)) {
      return UNKNOWN;
    }
    desks.put(desk, x, y);
    return 1;
  }

  public int ray(int desk, int patch) {
    if (!desks.has(desk) || !isPatch(patch)) {
      return UNKNOWN;
    }
    rays.trace(plan, desks);
    return rays.steps[rayNumber(desk, patch)];
  }

  public int sky(int desk) {
    if (!desks.has(desk)) {
      return UNKNOWN;
    }
    rays.trace(plan, desks);
    return rays.skyOf(desk);
  }

  // ---- hours

  public int bright(int hour, int v) {
    if (!isHour(hour)) {
      return UNKNOWN;
    }
    if (!isWithin(v, 0, MOST_BRIGHT)) {
      return OUTSIDE;
    }
    hours.brights[hour] = v;
    hours.strengths[hour] = 0;
    hours.lost[hour] = false;
    return 1;
  }

  public int sun(int hour, int patch, int strength) {
    if (!isHour(hour) || !isPatch(patch)) {
      return UNKNOWN;
    }
    if (!isWithin(strength, 0, MOST_STRENGTH)) {
      return OUTSIDE;
    }
    if (hours.lost[hour]) {
      return NOT;
    }
    hours.patches[hour] = patch;
    hours.strengths[hour] = strength;
    return 1;
  }

  public int lose(int hour) {
    if (!isHour(hour)) {
      return UNKNOWN;
    }
    if (hours.lost[hour]) {
      return NOT;
    }
    hours.lost[hour] = true;
    return 1;
  }

  public int set(int what, int v) {
    int was;
    if (what == 0 && isWithin(v, 0, MOST_BRIGHT)) {
      was = hours.most;
      hours.most = v;
    } else if (what == 1 && isWithin(v, 0, MOST_NEED)) {
      was = hours.need;
      hours.need = v;
    } else {
      was = OUTSIDE;
    }
    return was;
  }

  public int law(int glare, int calm) {
    if (!isWithin(glare, 0, MOST_GLARE) || !isWithin(calm, 0, glare)) {
      return OUTSIDE;
    }
    blinds.glare = glare;
    blinds.calm = calm;
    return 1;
  }

  public int down(int x, int y, int hour) {
    if (!isCell(x, y) || !isHour(hour)) {
      return UNKNOWN;
    }
    int cell = cellNumber(x, y);
    if (!plan.hasBlind(cell)) {
      return NOT;
    }
    look();
    return hasBit(blinds.lowered[hour], cell) ? 1 : 0;
  }

  public int light(int desk, int hour, int end) {
    if (!desks.has(desk) || !isHour(hour)) {
      return UNKNOWN;
    }
    if (!isEnd(end)) {
      return OUTSIDE;
    }
    look();
    return lightOf(desk, hour, end);
  }

  public int enough(int desk, int end) {
    if (!desks.has(desk)) {
      return UNKNOWN;
    }
    if (!isEnd(end)) {
      return OUTSIDE;
    }
    look();
    return enoughOf(desk, desk + 1, end);
  }

  // ---- offers, losses

  public int offer(int x, int y, int glass, int price) {
    if (!isCell(x, y)) {
      return UNKNOWN;
    }
    if (!isWithin(glass, 1, EIGHTHS) || !isWithin(price, 0, MOST_PRICE)) {
      return OUTSIDE;
    }
    if (offers.number >= MOST_OFFERS) {
      return FULL;
    }
    return offers.add(cellNumber(x, y), glass, price);
  }

  public int best(int budget, int what) {
    if (!isWithin(budget, 0, MOST_BUDGET) || !isWithin(what, 0, 2)) {
      return OUTSIDE;
    }
    search(budget);
    if (what == 0) {
      return found.choice;
    }
    return what == 1 ? found.cost : found.enough;
  }

  public int make(int budget) {
    if (!isWithin(budget, 0, MOST_BUDGET)) {
      return OUTSIDE;
    }
    search(budget);
    offers.openIn(plan, found.choice);
    offers.number = 0;
    return found.choice;
  }

  public int keep() {
    rays.trace(plan, desks);
    for (int desk = 0; desk < desks.number; desk++) {
      desks.skies[desk] = rays.skyOf(desk);
    }
    desks.kept = desks.number;
    return desks.kept;
  }

  public int loss(int desk) {
    if (!desks.has(desk) || desk >= desks.kept) {
      return NO_LOSS;
    }
    rays.trace(plan, desks);
    return desks.skies[desk] - rays.skyOf(desk);
  }

  public int count(int what) {
    switch (what) {
      case 0:
        return desks.number;
      case 1:
        return offers.number;
      case 2:
        return hours.howManyLost();
      case 3:
        return plan.howMany(WALL);
      case 4:
        return plan.howMany(WINDOW);
      default:
        return OUTSIDE;
    }
  }

  // ---- what the calls are made of

  private static boolean isWithin(int v, int least, int most) {
    return v >= least && v <= most;
  }

  private static boolean isCell(int x, int y) {
    return x >= 0 && x < SIDE && y >= 0 && y < SIDE;
  }

  private static boolean isPatch(int patch) {
    return patch >= 0 && patch < PATCHES;
  }

  private static boolean isHour(int hour) {
    return hour >= 0 && hour < HOURS;
  }

  private static boolean isEnd(int end) {
    return end == LEAST_END || end == MOST_END;
  }

  private static int cellNumber(int x, int y) {
    return y * SIDE + x;
  }

  private static int rayNumber(int desk, int patch) {
    return desk * PATCHES + patch;
  }

  private static boolean hasBit(long bits, int bit) {
    return (bits >>> bit & 1L) == 1L;
  }

  /** Brings rays and blinds up to the plan, the desks and the hours as they are now. */
  private void look() {
    rays.trace(plan, desks);
    blinds.follow(hours, rays, desks.number, plan.blinds);
  }

  private int lightOf(int desk, int hour, int end) {
    boolean lost = hours.lost[hour];
    if (lost && end == LEAST_END) {
      return 0;
    }
    long lowered = blinds.lowered[hour];
    long bright = lost ? hours.most : hours.brights[hour];
    long light = bright * rays.sumUnder(plan, desks, desk, lowered);
    if (hours.hasSun(hour)) {
      long share = rays.shareUnder(plan, desks, desk, hours.patches[hour], lowered);
      light += (long) hours.strengths[hour] * PATCHES * share;
    }
    return (int) (light / (PATCHES * WHOLE));
  }

  /** Enough of the desks from one on, up to another that is left out, together. */
  private int enoughOf(int firstDesk, int endDesk, int end) {
    int enough = 0;
    for (int desk = firstDesk; desk < endDesk; desk++) {
      for (int hour = 0; hour < HOURS; hour++) {
        if (lightOf(desk, hour, end) >= hours.need) {
          enough++;
        }
      }
    }
    return enough;
  }

  /** Tries every choice in the plan itself, and puts the walls back: choices hold walls alone. */
  private void search(int budget) {
    found.clear();
    int choices = 1 << offers.number;
    for (int choice = 0; choice < choices; choice++) {
      int cost = offers.costOf(choice);
      if (cost <= budget && offers.isChoice(plan, choice)) {
        offers.openIn(plan, choice);
        look();
        found.weigh(choice, cost, enoughOf(0, desks.number, LEAST_END));
        offers.closeIn(plan, choice);
      }
    }
  }

  /** What stands in each cell. */
  private static final class Plan {
    private final int[] kinds = new int[CELLS];
    /** 0 where no window is. */
    private final int[] glasses = new int[CELLS];
    /** A bit for each cell that has a blind. */
    private long blinds = 0L;

    private int put(int cell, int kind, int glass, boolean blind) {
      int was = kinds[cell];
      kinds[cell] = kind;
      glasses[cell] = glass;
      long bit = 1L << cell;
      blinds = blind ? blinds | bit : blinds & ~bit;
      return was;
    }

    private boolean hasBlind(int cell) {
      return hasBit(blinds, cell);
    }

    private boolean isWall(int x, int y) {
      return x >= 0 && x < SIDE && y >= 0 && y < SIDE && kinds[y * SIDE + x] == WALL;
    }

    private boolean isShut(int x, int y, int dx, int dy) {
      if (isWall(x + dx, y + dy)) {
        return true;
      }
      if (dx == 0 || dy == 0) {
        return false;
      }
      if (dx == 2 || dx == -2) {
        return isWall(x + dx / 2, y) && isWall(x + dx / 2, y + dy);
      }
      if (dy == 2 || dy == -2) {
        return isWall(x, y + dy / 2) && isWall(x + dx, y + dy / 2);
      }
      return isWall(x + dx, y) && isWall(x, y + dy);
    }

    private int howMany(int kind) {
      int number = 0;
      for (int cell = 0; cell < CELLS; cell++) {
        if (kinds[cell] == kind) {
          number++;
        }
      }
      return number;
    }
  }

  /** Where the desks are, and what sky was kept of them. */
  private static final class Desks {
    private final int[] xs = new int[MOST_DESKS];
    private final int[] ys = new int[MOST_DESKS];
    private final int[] skies = new int[MOST_DESKS];
    private int number = 0;
    /** Desks are never taken away, so those that were kept are the first ones. */
    private int kept = 0;

    private boolean has(int desk) {
      return desk >= 0 && desk < number;
    }

    private void put(int desk, int x, int y) {
      xs[desk] = x;
      ys[desk] = y;
    }
  }

  /** What is known of the hours, and what is asked of their light. */
  private static final class Hours {
    private final int[] brights = new int[HOURS];
    private final int[] patches = new int[HOURS];
    /** 0 where there is no sun. */
    private final int[] strengths = new int[HOURS];
    private final boolean[] lost = new boolean[HOURS];
    private int most = 1000;
    private int need = 300;

    private boolean hasSun(int hour) {
      return !lost[hour] && strengths[hour] > 0;
    }

    private int howManyLost() {
      int number = 0;
      for (int hour = 0; hour < HOURS; hour++) {
        if (lost[hour]) {
          number++;
        }
      }
      return number;
    }
  }

  /** The rays of all desks, a row of sixteen for each desk. */
  private static final class Rays {
    /** Steps till beyond the plan; NONE where a step is shut. */
    private final int[] steps = new int[MOST_DESKS * PATCHES];
    /** Shares with all blinds up, in parts of WHOLE; 0 where a step is shut. */
    private final long[] shares = new long[MOST_DESKS * PATCHES];
    /** A bit for each window to which the ray goes; none where a step is shut. */
    private final long[] windows = new long[MOST_DESKS * PATCHES];
    /** The shares of each desk together, with all blinds up. */
    private final long[] sums = new long[MOST_DESKS];

    private void trace(Plan plan, Desks desks) {
      for (int desk = 0; desk < desks.number; desk++) {
        long sum = 0L;
        for (int patch = 0; patch < PATCHES; patch++) {
          traceRay(plan, rayNumber(desk, patch), patch, desks.xs[desk], desks.ys[desk]);
          sum += shares[rayNumber(desk, patch)];
        }
        sums[desk] = sum;
      }
    }

    private void traceRay(Plan plan, int ray, int patch, int fromX, int fromY) {
      int dx = STEP_X[patch];
      int dy = STEP_Y[patch];
      int x = fromX;
      int y = fromY;
      int taken = 0;
      long share = WHOLE;
      long met = 0L;
      while (taken < SIDE && isCell(x, y) && !plan.isShut(x, y, dx, dy)) {
        x += dx;
        y += dy;
        taken++;
        if (isCell(x, y) && plan.glasses[cellNumber(x, y)] > 0) {
          share = share / EIGHTHS * plan.glasses[cellNumber(x, y)];
          met |= 1L << cellNumber(x, y);
        }
      }
      boolean beyond = !isCell(x, y);
      steps[ray] = beyond ? taken : NONE;
      shares[ray] = beyond ? share : 0L;
      windows[ray] = beyond ? met : 0L;
    }

    private int skyOf(int desk) {
      return (int) (1000L * sums[desk] / (PATCHES * WHOLE));
    }

    private long sumUnder(Plan plan, Desks desks, int desk, long lowered) {
      if (lowered == 0L) {
        return sums[desk];
      }
      long sum = 0L;
      for (int patch = 0; patch < PATCHES; patch++) {
        sum += shareUnder(plan, desks, desk, patch, lowered);
      }
      return sum;
    }

    /**
     * The share of a ray with the blinds of some windows (bits) down. Glass is a factor of the
     * share with all blinds up, so to divide by it, which leaves one eighth, is exact.
     */
    private long shareUnder(Plan plan, Desks desks, int desk, int patch, long lowered) {
      int ray = rayNumber(desk, patch);
      long share = shares[ray];
      if ((windows[ray] & lowered) == 0L) {
        return share;
      }
      int cell = cellNumber(desks.xs[desk], desks.ys[desk]);
      int stride = cellNumber(STEP_X[patch], STEP_Y[patch]);
      for (int step = 1; step < steps[ray]; step++) {
        cell += stride;
        if (cell >= 0 && cell < CELLS && plan.glasses[cell] > 0 && hasBit(lowered, cell)) {
          share /= plan.glasses[cell];
        }
      }
      return share;
    }

    /** The windows on rays in a patch on which the sun comes to a desk with some light or more. */
    private long windowsWith(int least, int desksNumber, int patch, int strength) {
      long met = 0L;
      for (int desk = 0; desk < desksNumber; desk++) {
        int ray = rayNumber(desk, patch);
        if (strength * shares[ray] >= least * WHOLE) {
          met |= windows[ray];
        }
      }
      return met;
    }
  }

  /** Which blinds are down in which hour, by the law. */
  private static final class Blinds {
    private final long[] lowered = new long[HOURS];
    private int glare = 300;
    private int calm = 100;

    private void follow(Hours hours, Rays rays, int desksNumber, long all) {
      long now = 0L;
      for (int hour = 0; hour < HOURS; hour++) {
        if (!hours.lost[hour]) {
          now = hours.hasSun(hour) ? next(now, hours, hour, rays, desksNumber) & all : 0L;
        }
        lowered[hour] = now;
      }
    }

    private long next(long now, Hours hours, int hour, Rays rays, int desksNumber) {
      int patch = hours.patches[hour];
      int strength = hours.strengths[hour];
      long glaring = rays.windowsWith(glare, desksNumber, patch, strength);
      long uncalm = rays.windowsWith(calm, desksNumber, patch, strength);
      return ~now & glaring | now & uncalm;
    }
  }

  /** Walls that may become windows. */
  private static final class Offers {
    private final int[] cells = new int[MOST_OFFERS];
    private final int[] glasses = new int[MOST_OFFERS];
    private final int[] prices = new int[MOST_OFFERS];
    private int number = 0;

    private int add(int cell, int glass, int price) {
      int added = number;
      cells[added] = cell;
      glasses[added] = glass;
      prices[added] = price;
      number++;
      return added;
    }

    private int costOf(int choice) {
      int cost = 0;
      for (int i = 0; i < number; i++) {
        if (hasBit(choice, i)) {
          cost += prices[i];
        }
      }
      return cost;
    }

    private boolean isChoice(Plan plan, int choice) {
      long taken = 0L;
      for (int i = 0; i < number; i++) {
        if (hasBit(choice, i)) {
          if (plan.kinds[cells[i]] != WALL || hasBit(taken, cells[i])) {
            return false;
          }
          taken |= 1L << cells[i];
        }
      }
      return true;
    }

    private void openIn(Plan plan, int choice) {
      for (int i = 0; i < number; i++) {
        if (hasBit(choice, i)) {
          plan.put(cells[i], WINDOW, glasses[i], false);
        }
      }
    }

    private void closeIn(Plan plan, int choice) {
      for (int i = 0; i < number; i++) {
        if (hasBit(choice, i)) {
          plan.put(cells[i], WALL, 0, false);
        }
      }
    }
  }

  /** The best choice so far of a search, in which choices come by their numbers. */
  private static final class Found {
    private int choice = 0;
    private int cost = 0;
    private int enough = NONE;

    private void clear() {
      choice = 0;
      cost = 0;
      enough = NONE;
    }

    /** A later choice must be better: of equal ones the least number stays. */
    private void weigh(int newChoice, int newCost, int newEnough) {
      if (newEnough > enough || newEnough == enough && newCost < cost) {
        choice = newChoice;
        cost = newCost;
        enough = newEnough;
      }
    }
  }
}
