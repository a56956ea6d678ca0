/** Each promise of the document by answers worked out by hand: ordinary inputs, edges, wrong inputs. */
public final class DayLightPromises {
  private static final int NONE = -1;
  private static final int UNKNOWN = -2;
  private static final int OUTSIDE = -3;
  private static final int NOT = -4;
  private static final int FULL = -5;
  private static final int NO_LOSS = Integer.MIN_VALUE;
  private static final int[] FAR = {Integer.MIN_VALUE, -1, 8, Integer.MAX_VALUE};

  private static int asked = 0;
  private static int wrong = 0;

  private static void due(String call, int got, int want) {
    asked++;
    if (got != want) {
      wrong++;
      System.out.println(call + " answered " + got + ", due is " + want);
    }
  }

  public static void main(String[] args) {
    newObject();
    cell();
    window();
    at();
    desk();
    move();
    raySteps();
    raySides();
    rayEdges();
    sky();
    bright();
    sun();
    lose();
    set();
    law();
    downByLaw();
    downByRays();
    downRefused();
    light();
    lightOfLostHours();
    enough();
    offer();
    bestByRank();
    bestOfChoices();
    bestWithBlinds();
    make();
    keep();
    loss();
    count();
    System.out.println(asked + " answers, " + wrong + " wrong");
    if (wrong != 0) {
      System.exit(1);
    }
  }

  /** A plan without walls and one desk in (3, 3). */
  private static DayLight oneDesk() {
    DayLight d = new DayLight();
    d.desk(3, 3);
    return d;
  }

  // ---- 1

  private static void newObject() {
    DayLight d = new DayLight();
    for (int what = 0; what < 5; what++) {
      due("1: count(" + what + ")", d.count(what), 0);
    }
    for (int x = 0; x < 8; x++) {
      for (int y = 0; y < 8; y++) {
        for (int what = 0; what < 3; what++) {
          due("1: at(" + x + ", " + y + ", " + what + ")", d.at(x, y, what), 0);
        }
      }
    }
    due("1: MOST at first", d.set(0, 0), 1000);
    due("1: NEED at first", d.set(1, 0), 300);
    d.desk(0, 0);
    for (int hour = 0; hour < 12; hour++) {
      due("1: BRIGHT at first, hour " + hour, d.light(0, hour, 1), 0);
    }
    DayLight other = new DayLight();
    due("1: objects share nothing", other.set(0, 5), 1000);
    due("1: objects share no desks", other.count(0), 0);
  }

  // ---- 2

  private static void cell() {
    DayLight d = new DayLight();
    due("2: to a wall", d.cell(2, 5, 1), 0);
    due("2: it is one", d.at(2, 5, 0), 1);
    due("2: x and y are not one another", d.at(5, 2, 0), 0);
    due("2: a wall again", d.cell(2, 5, 1), 1);
    due("2: to free", d.cell(2, 5, 0), 1);
    due("2: free again", d.cell(2, 5, 0), 0);
    due("2: corners", d.cell(0, 0, 1) + d.cell(7, 0, 1) + d.cell(0, 7, 1) + d.cell(7, 7, 1), 0);
    due("2: four walls", d.count(3), 4);
    d.window(2, 5, 7, true);
    due("2: a window to a wall", d.cell(2, 5, 1), 2);
    due("2: its glass is gone", d.at(2, 5, 1), 0);
    due("2: its blind is gone", d.at(2, 5, 2), 0);
    d.window(2, 5, 7, true);
    due("2: a window to free", d.cell(2, 5, 0), 2);
    due("2: no glass when free", d.at(2, 5, 1), 0);
    due("2: no blind when free", d.at(2, 5, 2), 0);
    for (int far : FAR) {
      due("2: no such x", d.cell(far, 0, 1), UNKNOWN);
      due("2: no such y", d.cell(0, far, 1), UNKNOWN);
      due("2: unknown ahead of outside", d.cell(far, 0, 9), UNKNOWN);
    }
    int[] kinds = {Integer.MIN_VALUE, -1, 2, 3, Integer.MAX_VALUE};
    for (int kind : kinds) {
      due("2: kind " + kind, d.cell(0, 0, kind), OUTSIDE);
    }
    due("2: refused, and nothing changed", d.at(0, 0, 0), 1);
  }

  // ---- 3

  private static void window() {
    DayLight d = new DayLight();
    due("3: on free", d.window(6, 1, 1, true), 0);
    due("3: it is one", d.at(6, 1, 0), 2);
    due("3: least glass", d.at(6, 1, 1), 1);
    due("3: a blind", d.at(6, 1, 2), 1);
    due("3: on a window", d.window(6, 1, 8, false), 2);
    due("3: most glass", d.at(6, 1, 1), 8);
    due("3: no blind any more", d.at(6, 1, 2), 0);
    d.cell(0, 7, 1);
    due("3: on a wall", d.window(0, 7, 3, false), 1);
    int[] glasses = {Integer.MIN_VALUE, -1, 0, 9, Integer.MAX_VALUE};
    for (int glass : glasses) {
      due("3: glass " + glass, d.window(6, 1, glass, true), OUTSIDE);
    }
    due("3: refused, glass is as it was", d.at(6, 1, 1), 8);
    due("3: refused, blind is as it was", d.at(6, 1, 2), 0);
    for (int far : FAR) {
      due("3: no such x", d.window(far, 0, 1, true), UNKNOWN);
      due("3: no such y", d.window(0, far, 1, true), UNKNOWN);
      due("3: unknown ahead of outside", d.window(0, far, 0, true), UNKNOWN);
    }
  }

  // ---- 4

  private static void at() {
    DayLight d = new DayLight();
    d.cell(7, 0, 1);
    d.window(7, 7, 5, true);
    d.window(0, 7, 6, false);
    due("4: a wall", d.at(7, 0, 0), 1);
    due("4: its glass", d.at(7, 0, 1), 0);
    due("4: its blind", d.at(7, 0, 2), 0);
    due("4: a window", d.at(7, 7, 0), 2);
    due("4: its glass", d.at(7, 7, 1), 5);
    due("4: its blind", d.at(7, 7, 2), 1);
    due("4: another window", d.at(0, 7, 1), 6);
    due("4: without blind", d.at(0, 7, 2), 0);
    due("4: a free cell", d.at(0, 0, 0), 0);
    int[] whats = {Integer.MIN_VALUE, -1, 3, Integer.MAX_VALUE};
    for (int what : whats) {
      due("4: what " + what, d.at(0, 0, what), OUTSIDE);
    }
    for (int far : FAR) {
      due("4: no such x", d.at(far, 0, 0), UNKNOWN);
      due("4: no such y", d.at(0, far, 0), UNKNOWN);
      due("4: unknown ahead of outside", d.at(far, 0, 3), UNKNOWN);
    }
  }

  // ---- 5

  private static void desk() {
    DayLight d = new DayLight();
    for (int far : FAR) {
      due("5: no such x", d.desk(far, 0), UNKNOWN);
      due("5: no such y", d.desk(0, far), UNKNOWN);
    }
    due("5: none came of these", d.count(0), 0);
    d.cell(1, 1, 1);
    due("5: the first", d.desk(0, 0), 0);
    due("5: in a wall", d.desk(1, 1), 1);
    due("5: two in a cell", d.desk(1, 1), 2);
    due("5: the last", d.desk(7, 7), 3);
    due("5: one more", d.desk(3, 3), FULL);
    due("5: unknown ahead of full", d.desk(8, 3), UNKNOWN);
    due("5: four", d.count(0), 4);
    due("5: the last is where it was put", d.ray(3, 0), 1);
  }

  // ---- 6

  private static void move() {
    DayLight d = new DayLight();
    due("6: no desk yet", d.move(0, 0, 0), UNKNOWN);
    d.desk(0, 0);
    d.desk(5, 6);
    due("6: moved", d.move(0, 7, 2), 1);
    due("6: x is new", d.ray(0, 0), 1);
    due("6: y is new", d.ray(0, 4), 6);
    due("6: the other stays", d.ray(1, 0), 3);
    due("6: to where it is", d.move(0, 7, 2), 1);
    due("6: no such desk", d.move(2, 0, 0), UNKNOWN);
    due("6: desk -1", d.move(-1, 0, 0), UNKNOWN);
    due("6: the greatest desk", d.move(Integer.MAX_VALUE, 0, 0), UNKNOWN);
    for (int far : FAR) {
      due("6: no such x", d.move(0, far, 0), UNKNOWN);
      due("6: no such y", d.move(0, 0, far), UNKNOWN);
    }
    due("6: refused, x is as it was", d.ray(0, 0), 1);
    due("6: refused, y is as it was", d.ray(0, 4), 6);
    due("6: no desk is new", d.count(0), 2);
  }

  // ---- 7

  private static void raySteps() {
    DayLight d = oneDesk();
    int[] free = {5, 3, 5, 3, 5, 3, 4, 2, 4, 2, 4, 2, 4, 2, 4, 3};
    for (int patch = 0; patch < 16; patch++) {
      due("7: free, patch " + patch, d.ray(0, patch), free[patch]);
    }
    int[][] firsts = {
      {4, 3}, {5, 4}, {4, 4}, {4, 5}, {3, 4}, {2, 5}, {2, 4}, {1, 4},
      {2, 3}, {1, 2}, {2, 2}, {2, 1}, {3, 2}, {4, 1}, {4, 2}, {5, 2}
    };
    for (int patch = 0; patch < 16; patch++) {
      int[] first = firsts[patch];
      d.cell(first[0], first[1], 1);
      due("7: a wall, patch " + patch, d.ray(0, patch), NONE);
      d.window(first[0], first[1], 1, true);
      due("7: a window, patch " + patch, d.ray(0, patch), free[patch]);
      d.cell(first[0], first[1], 0);
    }
  }

  private static void raySides() {
    DayLight d = oneDesk();
    int[][] sides = {
      {1, 4, 3, 4, 4}, {2, 4, 3, 3, 4}, {3, 3, 4, 4, 4}, {5, 3, 4, 2, 4}, {6, 2, 3, 3, 4},
      {7, 2, 3, 2, 4}, {9, 2, 3, 2, 2}, {10, 2, 3, 3, 2}, {11, 3, 2, 2, 2}, {13, 3, 2, 4, 2},
      {14, 4, 3, 3, 2}, {15, 4, 3, 4, 2}
    };
    for (int[] side : sides) {
      int free = d.ray(0, side[0]);
      d.cell(side[1], side[2], 1);
      due("7: one side, patch " + side[0], d.ray(0, side[0]), free);
      d.cell(side[3], side[4], 1);
      due("7: both sides, patch " + side[0], d.ray(0, side[0]), NONE);
      d.cell(side[1], side[2], 0);
      due("7: the other side, patch " + side[0], d.ray(0, side[0]), free);
      d.window(side[1], side[2], 8, false);
      due("7: a window at the side, patch " + side[0], d.ray(0, side[0]), free);
      d.cell(side[1], side[2], 0);
      d.cell(side[3], side[4], 0);
    }
    d.cell(6, 5, 1);
    d.cell(5, 6, 1);
    due("7: sides of a later step", d.ray(0, 2), NONE);
  }

  private static void rayEdges() {
    DayLight d = new DayLight();
    d.desk(3, 6);
    d.cell(3, 7, 1);
    due("7: one side of the last step", d.ray(0, 3), 1);
    d.cell(4, 7, 1);
    due("7: both sides of the last step", d.ray(0, 3), NONE);
    d.move(0, 7, 3);
    d.cell(7, 4, 1);
    due("7: beyond the plan are no walls", d.ray(0, 2), 1);
    due("7: the longest ray", d.ray(0, 8), 8);
    d.cell(7, 3, 1);
    due("7: from within a wall", d.ray(0, 8), 8);
    d.cell(0, 3, 1);
    due("7: a wall in the last cell", d.ray(0, 8), NONE);
    d.move(0, 5, 5);
    int[][] lasts = {{0, 7, 5}, {4, 5, 7}, {8, 0, 5}, {12, 5, 0}, {10, 0, 0}, {2, 7, 7}};
    for (int[] last : lasts) {
      d.cell(last[1], last[2], 1);
      due("7: a wall at the edge, patch " + last[0], d.ray(0, last[0]), NONE);
    }
    int[] patches = {Integer.MIN_VALUE, -1, 16, Integer.MAX_VALUE};
    for (int patch : patches) {
      due("7: patch " + patch, d.ray(0, patch), UNKNOWN);
    }
    due("7: no such desk", d.ray(1, 0), UNKNOWN);
    due("7: desk -1", d.ray(-1, 0), UNKNOWN);
    due("7: the least desk", d.ray(Integer.MIN_VALUE, 0), UNKNOWN);
  }

  // ---- 8

  private static void sky() {
    DayLight d = oneDesk();
    due("8: all of it", d.sky(0), 1000);
    d.cell(4, 3, 1);
    due("8: 15 of 16, cut", d.sky(0), 937);
    d.window(4, 3, 8, false);
    due("8: clear glass", d.sky(0), 1000);
    d.window(4, 3, 4, false);
    due("8: 15.5 of 16", d.sky(0), 968);
    d.window(4, 3, 1, false);
    due("8: 15.125 of 16", d.sky(0), 945);
    d.window(4, 3, 4, false);
    d.window(6, 3, 2, false);
    due("8: one times the other: 15.125 of 16", d.sky(0), 945);
    d.cell(7, 3, 1);
    due("8: behind them a wall", d.sky(0), 937);
    d.cell(7, 3, 0);
    d.cell(6, 3, 0);
    d.window(4, 3, 8, true);
    d.sun(0, 0, 1000);
    due("8: a blind is down", d.down(4, 3, 0), 1);
    due("8: with all blinds up", d.sky(0), 1000);
    d.window(3, 3, 1, true);
    due("8: its own window does not count", d.sky(0), 1000);
    d.cell(3, 3, 1);
    due("8: its own wall does not count", d.sky(0), 1000);
    due("8: no such desk", d.sky(1), UNKNOWN);
    due("8: desk -1", d.sky(-1), UNKNOWN);
    due("8: the greatest desk", d.sky(Integer.MAX_VALUE), UNKNOWN);
    due("8: seven windows", sevenWindows(8).sky(0), 1000);
    // 15 + (7/8)^7 = 15.3927 of 16
    due("8: seven windows of 7", sevenWindows(7).sky(0), 962);
  }

  /** A desk in (0, 0) that looks through seven windows in patch 0. */
  private static DayLight sevenWindows(int glass) {
    DayLight d = new DayLight();
    d.desk(0, 0);
    for (int x = 1; x < 8; x++) {
      d.window(x, 0, glass, true);
    }
    return d;
  }

  // ---- 9

  private static void bright() {
    DayLight d = oneDesk();
    due("9: set", d.bright(0, 1000), 1);
    due("9: seen", d.light(0, 0, 0), 1000);
    due("9: other hours stay", d.light(0, 1, 0), 0);
    due("9: the last hour", d.bright(11, 7), 1);
    due("9: seen", d.light(0, 11, 0), 7);
    due("9: none", d.bright(11, 0), 1);
    due("9: seen", d.light(0, 11, 0), 0);
    d.sun(0, 5, 20);
    due("9: sun", d.light(0, 0, 0), 1020);
    due("9: without the sun", d.bright(0, 30), 1);
    due("9: seen", d.light(0, 0, 0), 30);
    d.lose(0);
    due("9: no more lost", d.bright(0, 40), 1);
    due("9: both ends", d.light(0, 0, 0), 40);
    due("9: none is lost", d.count(2), 0);
    int[] values = {Integer.MIN_VALUE, -1, 1001, Integer.MAX_VALUE};
    d.lose(1);
    for (int v : values) {
      due("9: v " + v, d.bright(0, v), OUTSIDE);
      due("9: v " + v + " of a lost hour", d.bright(1, v), OUTSIDE);
    }
    due("9: refused, it is as it was", d.light(0, 0, 0), 40);
    due("9: refused, it is still lost", d.count(2), 1);
    int[] hours = {Integer.MIN_VALUE, -1, 12, Integer.MAX_VALUE};
    for (int hour : hours) {
      due("9: hour " + hour, d.bright(hour, 1), UNKNOWN);
      due("9: unknown ahead of outside", d.bright(hour, -1), UNKNOWN);
    }
  }

  // ---- 10

  private static void sun() {
    DayLight d = oneDesk();
    d.cell(4, 3, 1);
    due("10: set", d.sun(2, 15, 1000), 1);
    due("10: seen", d.light(0, 2, 0), 1000);
    due("10: other hours have none", d.light(0, 1, 0), 0);
    due("10: in a patch that is shut", d.sun(2, 0, 1000), 1);
    due("10: seen", d.light(0, 2, 0), 0);
    due("10: the least", d.sun(11, 4, 1), 1);
    due("10: seen", d.light(0, 11, 0), 1);
    due("10: none", d.sun(11, 4, 0), 1);
    due("10: seen", d.light(0, 11, 0), 0);
    d.bright(3, 160);
    d.sun(3, 4, 50);
    due("10: bright stays: 150 and 50", d.light(0, 3, 0), 200);
    int[] strengths = {Integer.MIN_VALUE, -1, 1001, Integer.MAX_VALUE};
    for (int strength : strengths) {
      due("10: strength " + strength, d.sun(3, 4, strength), OUTSIDE);
    }
    int[] patches = {Integer.MIN_VALUE, -1, 16, Integer.MAX_VALUE};
    for (int patch : patches) {
      due("10: patch " + patch, d.sun(3, patch, 10), UNKNOWN);
      due("10: patch " + patch + " with none", d.sun(3, patch, 0), UNKNOWN);
      due("10: unknown ahead of outside", d.sun(3, patch, -1), UNKNOWN);
    }
    int[] hours = {Integer.MIN_VALUE, -1, 12, Integer.MAX_VALUE};
    for (int hour : hours) {
      due("10: hour " + hour, d.sun(hour, 0, 10), UNKNOWN);
    }
    due("10: refused, it is as it was", d.light(0, 3, 0), 200);
    d.lose(3);
    due("10: it is lost", d.sun(3, 4, 50), NOT);
    due("10: none in a lost one", d.sun(3, 4, 0), NOT);
    due("10: unknown ahead of not", d.sun(3, 16, 50), UNKNOWN);
    due("10: outside ahead of not", d.sun(3, 4, 1001), OUTSIDE);
  }

  // ---- 11

  private static void lose() {
    DayLight d = oneDesk();
    d.bright(4, 500);
    d.sun(4, 1, 700);
    due("11: lost", d.lose(4), 1);
    due("11: the least", d.light(0, 4, 0), 0);
    due("11: the most, without the sun", d.light(0, 4, 1), 1000);
    due("11: it is", d.lose(4), NOT);
    due("11: the first", d.lose(0), 1);
    due("11: the last", d.lose(11), 1);
    due("11: three", d.count(2), 3);
    int[] hours = {Integer.MIN_VALUE, -1, 12, Integer.MAX_VALUE};
    for (int hour : hours) {
      due("11: hour " + hour, d.lose(hour), UNKNOWN);
    }
    d.bright(4, 500);
    due("11: the sun does not come back", d.light(0, 4, 1), 500);
    due("11: lost again", d.lose(4), 1);
  }

  // ---- 12

  private static void set() {
    DayLight d = oneDesk();
    d.lose(0);
    due("12: MOST", d.set(0, 0), 1000);
    due("12: seen", d.light(0, 0, 1), 0);
    due("12: MOST", d.set(0, 1000), 0);
    due("12: seen", d.light(0, 0, 1), 1000);
    due("12: MOST is as it was", d.set(0, 1000), 1000);
    due("12: NEED", d.set(1, 2000), 300);
    due("12: seen", d.enough(0, 1), 0);
    due("12: NEED", d.set(1, 0), 2000);
    due("12: seen", d.enough(0, 1), 12);
    int[] values = {Integer.MIN_VALUE, -1, 2001, Integer.MAX_VALUE};
    for (int v : values) {
      due("12: MOST " + v, d.set(0, v), OUTSIDE);
      due("12: NEED " + v, d.set(1, v), OUTSIDE);
    }
    due("12: MOST 1001", d.set(0, 1001), OUTSIDE);
    int[] whats = {Integer.MIN_VALUE, -1, 2, Integer.MAX_VALUE};
    for (int what : whats) {
      due("12: what " + what, d.set(what, 0), OUTSIDE);
    }
    due("12: MOST is as it was", d.set(0, 3), 1000);
    due("12: NEED is as it was", d.set(1, 4), 0);
  }

  // ---- 13

  private static void law() {
    DayLight d = oneDesk();
    d.window(4, 3, 8, true);
    d.sun(0, 0, 500);
    d.sun(1, 0, 200);
    due("13: set", d.law(500, 200), 1);
    due("13: glare", d.down(4, 3, 0), 1);
    due("13: not calm", d.down(4, 3, 1), 1);
    due("13: set", d.law(500, 201), 1);
    due("13: calm", d.down(4, 3, 1), 0);
    due("13: set", d.law(501, 0), 1);
    due("13: no glare", d.down(4, 3, 0), 0);
    due("13: the most of both", d.law(1000, 1000), 1);
    due("13: the least of both", d.law(0, 0), 1);
    due("13: alike", d.law(200, 200), 1);
    int[] values = {Integer.MIN_VALUE, -1, 1001, Integer.MAX_VALUE};
    for (int v : values) {
      due("13: glare " + v, d.law(v, 0), OUTSIDE);
      due("13: calm " + v, d.law(1000, v), OUTSIDE);
    }
    due("13: calm above glare", d.law(500, 501), OUTSIDE);
    due("13: glare -1, calm -1", d.law(-1, -1), OUTSIDE);
    due("13: both above", d.law(1001, 1001), OUTSIDE);
    due("13: refused, glare is as it was", d.down(4, 3, 1), 1);
    d.sun(1, 0, 199);
    due("13: refused, calm is as it was", d.down(4, 3, 1), 0);
  }

  // ---- 14

  private static void downByLaw() {
    DayLight d = oneDesk();
    d.window(4, 3, 8, true);
    int[] strengths = {299, 300, 100, 99, 299, 1000, 0, 1000, 0, 100, 0, 299};
    int[] downs = {0, 1, 1, 0, 0, 1, 0, 1, 1, 1, 0, 0};
    for (int hour = 0; hour < 12; hour++) {
      d.sun(hour, 0, strengths[hour]);
    }
    d.lose(8);
    for (int hour = 0; hour < 12; hour++) {
      due("14: glare 300, calm 100, hour " + hour, d.down(4, 3, hour), downs[hour]);
    }
    d.sun(9, 1, 1000);
    due("14: the sun elsewhere", d.down(4, 3, 9), 0);
    d.lose(0);
    due("14: lost at first, still up", d.down(4, 3, 0), 0);
    d.law(0, 0);
    due("14: glare 0, any ray will do", d.down(4, 3, 11), 1);
    due("14: glare 0, no sun", d.down(4, 3, 6), 0);
    due("14: glare 0, sun elsewhere", d.down(4, 3, 9), 0);
    d.law(300, 0);
    d.sun(6, 0, 1);
    due("14: calm 0, none is below", d.down(4, 3, 6), 1);
  }

  private static void downByRays() {
    DayLight d = oneDesk();
    d.window(4, 3, 8, true);
    d.window(5, 3, 4, true);
    d.window(2, 3, 8, true);
    d.window(3, 3, 8, true);
    d.sun(0, 0, 600);
    due("14: half of 600 is 300", d.down(4, 3, 0), 1);
    due("14: on the same ray, all blinds up", d.down(5, 3, 0), 1);
    due("14: behind the desk", d.down(2, 3, 0), 0);
    due("14: its own cell", d.down(3, 3, 0), 0);
    d.sun(0, 0, 599);
    due("14: half of 599 is below 300", d.down(4, 3, 0), 0);
    d.sun(0, 0, 600);
    d.cell(7, 3, 1);
    due("14: a shut step beyond the window", d.down(4, 3, 0), 0);
    d.cell(7, 3, 0);
    d.sun(1, 0, 200);
    due("14: half of 200 is not below 100", d.down(4, 3, 1), 1);
    d.sun(1, 0, 199);
    due("14: half of 199 is", d.down(4, 3, 1), 0);
    d.desk(4, 3);
    d.sun(0, 0, 599);
    due("14: a second desk does not help", d.down(4, 3, 0), 0);
    d.sun(0, 8, 1000);
    due("14: of the second desk alone", d.down(3, 3, 0), 1);
    due("14: of both", d.down(2, 3, 0), 1);
    d.move(0, 0, 0);
    due("14: of one of two", d.down(2, 3, 0), 1);
    d.move(1, 0, 0);
    due("14: of none", d.down(2, 3, 0), 0);
  }

  private static void downRefused() {
    DayLight d = new DayLight();
    d.window(7, 7, 8, true);
    d.window(6, 6, 8, false);
    d.cell(5, 5, 1);
    d.sun(0, 2, 1000);
    due("14: no desks", d.down(7, 7, 0), 0);
    due("14: a window without", d.down(6, 6, 0), NOT);
    due("14: a wall", d.down(5, 5, 0), NOT);
    due("14: a free cell", d.down(0, 0, 11), NOT);
    for (int far : FAR) {
      due("14: no such x", d.down(far, 0, 0), UNKNOWN);
      due("14: no such y", d.down(0, far, 0), UNKNOWN);
    }
    int[] hours = {Integer.MIN_VALUE, -1, 12, Integer.MAX_VALUE};
    for (int hour : hours) {
      due("14: hour " + hour, d.down(7, 7, hour), UNKNOWN);
      due("14: unknown ahead of not", d.down(0, 0, hour), UNKNOWN);
    }
  }

  // ---- 15

  private static void light() {
    DayLight d = oneDesk();
    d.window(4, 3, 4, false);
    d.bright(0, 8);
    due("15: 7.75", d.light(0, 0, 0), 7);
    d.sun(0, 0, 1);
    due("15: 7.75 and 0.5, cut once", d.light(0, 0, 0), 8);
    due("15: both ends alike", d.light(0, 0, 1), 8);
    d.bright(1, 1000);
    d.sun(1, 8, 1000);
    due("15: 968.75 and 1000", d.light(0, 1, 1), 1968);
    d.window(4, 3, 8, true);
    d.sun(1, 0, 1000);
    due("15: a blind down: 945.3125 and 125", d.light(0, 1, 0), 1070);
    d.window(6, 3, 3, true);
    // 15 + 1/64 of 16, and 1/64
    due("15: two blinds down: 938.4765 and 15.625", d.light(0, 1, 0), 954);
    d.window(6, 3, 3, false);
    // 15 + 3/64 of 16, and 3/64
    due("15: one of two without blind: 940.4296 and 46.875", d.light(0, 1, 0), 987);
    d.sun(1, 8, 1000);
    due("15: blinds up: 15.375 of 16 and 1000", d.light(0, 1, 0), 1960);
    d.desk(0, 0);
    due("15: another desk, by (2, 1) through (6, 3)", d.light(1, 1, 0), 1960);
    d.move(1, 7, 7);
    due("15: another desk, all open", d.light(1, 1, 0), 2000);
    int[] ends = {Integer.MIN_VALUE, -1, 2, Integer.MAX_VALUE};
    for (int end : ends) {
      due("15: end " + end, d.light(0, 0, end), OUTSIDE);
      due("15: unknown desk ahead of outside", d.light(2, 0, end), UNKNOWN);
      due("15: unknown hour ahead of outside", d.light(0, 12, end), UNKNOWN);
    }
    int[] hours = {Integer.MIN_VALUE, -1, 12, Integer.MAX_VALUE};
    for (int hour : hours) {
      due("15: hour " + hour, d.light(0, hour, 0), UNKNOWN);
    }
    due("15: no such desk", d.light(2, 0, 0), UNKNOWN);
    due("15: desk -1", d.light(-1, 0, 0), UNKNOWN);
    sevenBlinds();
    lastBlinds();
    blindsOfFourDesks();
  }

  private static void blindsOfFourDesks() {
    DayLight d = oneDesk();
    d.desk(7, 3);
    d.desk(4, 4);
    d.desk(7, 7);
    d.window(5, 3, 8, true);
    d.window(0, 4, 8, true);
    d.window(2, 7, 8, true);
    d.bright(0, 128);
    d.sun(0, 8, 1000);
    due("15: down by the second desk", d.down(5, 3, 0), 1);
    due("15: down by the third desk", d.down(0, 4, 0), 1);
    due("15: down by the fourth desk", d.down(2, 7, 0), 1);
    // Patch 0 goes to (7, 3) and ends there: the blind in (0, 4) is not on it.
    due("15: one blind of another desk: 121 and 1000", d.light(0, 0, 0), 1121);
    // Patch 11 goes to (5, 3), patch 8 to (2, 7).
    due("15: two blinds: 114 and 125", d.light(3, 0, 0), 239);
  }

  /** Blinds in the last cells of rays; glass of two eighths, so that a blind takes half. */
  private static void lastBlinds() {
    int[][] lasts = {{0, 7, 3}, {4, 3, 7}, {8, 0, 3}, {12, 3, 0}, {10, 0, 0}, {2, 7, 7}};
    for (int[] last : lasts) {
      DayLight d = oneDesk();
      d.law(0, 0);
      d.window(last[1], last[2], 2, true);
      d.bright(0, 16);
      d.sun(0, last[0], 80);
      due("15: a blind at the edge: 15.125 and 10, patch " + last[0], d.light(0, 0, 0), 25);
      d.law(1000, 0);
      due("15: it is up: 15.25 and 20, patch " + last[0], d.light(0, 0, 0), 35);
    }
  }

  private static void sevenBlinds() {
    DayLight d = sevenWindows(8);
    d.bright(0, 16);
    d.sun(0, 0, 1000);
    // 15 and 8^-7, and 1000 times 8^-7
    due("15: seven blinds down", d.light(0, 0, 0), 15);
    due("15: the last of them is", d.down(7, 0, 0), 1);
    d.sun(0, 4, 1000);
    due("15: seven blinds up", d.light(0, 0, 0), 1016);
    DayLight dim = sevenWindows(7);
    dim.law(1000, 1000);
    dim.sun(0, 0, 1000);
    // 1000 times (7/8)^7 = 392.69
    due("15: seven windows of 7", dim.light(0, 0, 0), 392);
  }

  private static void lightOfLostHours() {
    DayLight d = oneDesk();
    d.window(4, 3, 8, true);
    d.sun(0, 0, 1000);
    d.bright(1, 400);
    d.sun(1, 0, 1000);
    d.lose(1);
    due("15: lost, the least", d.light(0, 1, 0), 0);
    due("15: lost, the most, the blind stays down", d.light(0, 1, 1), 945);
    d.set(0, 100);
    due("15: lost, MOST 100: 94.53", d.light(0, 1, 1), 94);
    d.sun(0, 0, 0);
    due("15: lost, the blind stays up", d.light(0, 1, 1), 100);
  }

  // ---- 16

  private static void enough() {
    DayLight d = oneDesk();
    due("16: none", d.enough(0, 0), 0);
    d.bright(0, 300);
    d.bright(1, 299);
    d.bright(11, 1000);
    due("16: of 300 or more", d.enough(0, 0), 2);
    due("16: perhaps, too", d.enough(0, 1), 2);
    d.sun(1, 3, 1);
    due("16: with the sun", d.enough(0, 0), 3);
    d.lose(5);
    due("16: a lost one, surely", d.enough(0, 0), 3);
    due("16: a lost one, perhaps", d.enough(0, 1), 4);
    d.set(0, 299);
    due("16: MOST below NEED", d.enough(0, 1), 3);
    d.set(0, 300);
    due("16: MOST is NEED", d.enough(0, 1), 4);
    d.cell(4, 3, 1);
    due("16: with a wall", d.enough(0, 1), 1);
    d.bright(0, 320);
    due("16: 15 of 16 of 320 is 300", d.enough(0, 0), 2);
    d.set(1, 0);
    due("16: NEED 0, surely", d.enough(0, 0), 12);
    due("16: NEED 0, perhaps", d.enough(0, 1), 12);
    d.set(1, 1);
    due("16: NEED 1, surely", d.enough(0, 0), 3);
    due("16: NEED 1, perhaps", d.enough(0, 1), 4);
    int[] ends = {Integer.MIN_VALUE, -1, 2, Integer.MAX_VALUE};
    for (int end : ends) {
      due("16: end " + end, d.enough(0, end), OUTSIDE);
      due("16: unknown ahead of outside", d.enough(1, end), UNKNOWN);
    }
    due("16: no such desk", d.enough(1, 0), UNKNOWN);
    due("16: desk -1", d.enough(-1, 1), UNKNOWN);
  }

  // ---- 17

  private static void offer() {
    DayLight d = new DayLight();
    for (int far : FAR) {
      due("17: no such x", d.offer(far, 0, 1, 1), UNKNOWN);
      due("17: no such y", d.offer(0, far, 1, 1), UNKNOWN);
      due("17: unknown ahead of outside", d.offer(far, 0, 0, -1), UNKNOWN);
    }
    int[] glasses = {Integer.MIN_VALUE, -1, 0, 9, Integer.MAX_VALUE};
    for (int glass : glasses) {
      due("17: glass " + glass, d.offer(0, 0, glass, 1), OUTSIDE);
    }
    int[] prices = {Integer.MIN_VALUE, -1, 1001, Integer.MAX_VALUE};
    for (int price : prices) {
      due("17: price " + price, d.offer(0, 0, 1, price), OUTSIDE);
    }
    due("17: none came of these", d.count(1), 0);
    d.cell(1, 1, 1);
    d.window(2, 2, 1, true);
    due("17: of a free cell", d.offer(0, 0, 1, 0), 0);
    due("17: of a wall", d.offer(1, 1, 8, 1000), 1);
    due("17: of a window", d.offer(2, 2, 4, 5), 2);
    due("17: of the same cell", d.offer(1, 1, 8, 1000), 3);
    due("17: the last", d.offer(7, 7, 4, 5), 4);
    due("17: one more", d.offer(7, 7, 4, 5), FULL);
    due("17: unknown ahead of full", d.offer(8, 7, 4, 5), UNKNOWN);
    due("17: outside ahead of full", d.offer(7, 7, 9, 5), OUTSIDE);
    due("17: five", d.count(1), 5);
    due("17: the plan stays", d.at(1, 1, 0), 1);
    d.make(0);
    due("17: numbers begin anew", d.offer(3, 3, 4, 5), 0);
  }

  // ---- 18

  private static void best(String what, DayLight d, int budget, int choice, int cost, int enough) {
    due("18: " + what + ", the choice", d.best(budget, 0), choice);
    due("18: " + what + ", its cost", d.best(budget, 1), cost);
    due("18: " + what + ", enough by it", d.best(budget, 2), enough);
  }

  /** A desk in (3, 3) with a wall in (4, 3) that takes patch 0: 310 is enough with 15.5 of 16. */
  private static DayLight walled() {
    DayLight d = oneDesk();
    d.cell(4, 3, 1);
    d.bright(0, 310);
    return d;
  }

  private static void bestByRank() {
    best("nothing at all", new DayLight(), 0, 0, 0, 0);
    best("no offers", walled(), 5000, 0, 0, 0);
    DayLight d = walled();
    d.offer(4, 3, 8, 50);
    d.offer(4, 3, 4, 50);
    d.offer(4, 3, 3, 10);
    d.offer(4, 3, 4, 40);
    best("the cheapest of those with enough", d, 5000, 8, 40, 1);
    best("all of the budget", d, 40, 8, 40, 1);
    best("one less", d, 39, 0, 0, 0);
    d.bright(1, 310);
    d.bright(2, 305);
    best("most enough ahead of cheap", d, 5000, 1, 50, 3);
    best("within the budget", d, 49, 8, 40, 2);
    DayLight alike = walled();
    alike.offer(4, 3, 8, 40);
    alike.offer(4, 3, 8, 40);
    best("the least number", alike, 5000, 1, 40, 1);
    DayLight free = walled();
    free.cell(6, 7, 1);
    free.offer(6, 7, 8, 0);
    free.offer(4, 3, 8, 0);
    best("the least number, more for nothing", free, 0, 2, 0, 1);
    int[] budgets = {Integer.MIN_VALUE, -1, 5001, Integer.MAX_VALUE};
    for (int budget : budgets) {
      due("18: budget " + budget, free.best(budget, 0), OUTSIDE);
    }
    int[] whats = {Integer.MIN_VALUE, -1, 3, Integer.MAX_VALUE};
    for (int what : whats) {
      due("18: what " + what, free.best(0, what), OUTSIDE);
    }
  }

  private static void bestOfChoices() {
    DayLight d = oneDesk();
    d.desk(3, 3);
    d.bright(0, 310);
    int[][] walls = {{4, 3}, {3, 4}, {2, 3}, {3, 2}, {4, 4}};
    for (int[] wall : walls) {
      d.cell(wall[0], wall[1], 1);
      d.offer(wall[0], wall[1], 8, 1000);
    }
    best("all five, for two desks", d, 5000, 31, 5000, 2);
    best("four are not enough", d, 4999, 0, 0, 0);
    d.set(1, 290);
    // With a wall in (4, 4) alone patch 2 is shut: 15 of 16.
    best("four are", d, 5000, 15, 4000, 2);
    d.cell(4, 3, 0);
    best("a cell that is no wall now", d, 5000, 14, 3000, 2);
    d.window(4, 3, 8, true);
    best("a cell that is a window now", d, 5000, 14, 3000, 2);
    due("18: the plan is as it was", d.count(3), 4);
    due("18: walls have no glass by it", d.at(3, 4, 1), 0);
    due("18: walls have no blind by it", d.at(3, 4, 2), 0);
    due("18: the window is as it was", d.at(4, 3, 2), 1);
    due("18: the offers stay", d.count(1), 5);
    d.lose(0);
    best("lost hours are not sure", d, 5000, 0, 0, 0);
    DayLight twice = walled();
    twice.offer(4, 3, 3, 0);
    twice.offer(4, 3, 3, 0);
    best("no two of one cell", twice, 5000, 0, 0, 0);
  }

  private static void bestWithBlinds() {
    DayLight d = new DayLight();
    d.desk(4, 3);
    d.desk(1, 3);
    d.cell(3, 3, 1);
    d.window(6, 3, 2, true);
    d.sun(0, 0, 1000);
    d.law(250, 100);
    d.set(1, 250);
    due("18: the blind is down of itself", d.down(6, 3, 0), 1);
    d.law(251, 100);
    best("no glare for either", offered(d), 10, 1, 5, 2);
    blindsOfOtherHours();
  }

  /** A wall made a window shows the first desk the sun: a blind goes down before the others. */
  private static void blindsOfOtherHours() {
    DayLight d = new DayLight();
    d.desk(3, 3);
    d.desk(5, 6);
    d.desk(5, 6);
    d.window(5, 3, 8, true);
    d.cell(7, 3, 1);
    d.cell(6, 6, 1);
    d.bright(0, 330);
    d.sun(0, 0, 300);
    d.offer(7, 3, 8, 0);
    due("18: the wall keeps the blind up", d.down(5, 3, 0), 0);
    due("18: 15 of 16 of 330 for the second desk", d.light(1, 0, 0), 309);
    best("a blind takes more than the sun gives", d, 5000, 0, 0, 2);
    due("18: the blind is still up", d.down(5, 3, 0), 0);
    d.law(301, 100);
    best("no glare", d, 5000, 1, 0, 3);
  }

  private static DayLight offered(DayLight d) {
    d.offer(3, 3, 8, 5);
    return d;
  }

  // ---- 19

  private static void make() {
    DayLight d = walled();
    d.cell(6, 7, 1);
    d.offer(6, 7, 8, 0);
    d.offer(4, 3, 5, 30);
    int[] budgets = {Integer.MIN_VALUE, -1, 5001, Integer.MAX_VALUE};
    for (int budget : budgets) {
      due("19: budget " + budget, d.make(budget), OUTSIDE);
    }
    due("19: the offers stayed", d.count(1), 2);
    due("19: made", d.make(5000), 2);
    due("19: a window", d.at(4, 3, 0), 2);
    due("19: its glass", d.at(4, 3, 1), 5);
    due("19: without blind", d.at(4, 3, 2), 0);
    due("19: the other is a wall", d.at(6, 7, 0), 1);
    due("19: the offers are gone", d.count(1), 0);
    due("19: enough now", d.enough(0, 0), 1);
    due("19: again, without offers", d.make(0), 0);
    DayLight none = walled();
    none.offer(4, 3, 8, 1);
    due("19: nothing within the budget", none.make(0), 0);
    due("19: the wall stays", none.at(4, 3, 0), 1);
    due("19: the offers are gone all the same", none.count(1), 0);
    due("19: and do not come back", none.best(5000, 0), 0);
    DayLight two = walled();
    two.cell(3, 4, 1);
    two.offer(4, 3, 8, 1);
    two.offer(3, 4, 7, 1);
    due("19: two at once", two.make(2), 3);
    due("19: the first", two.at(4, 3, 1), 8);
    due("19: the second", two.at(3, 4, 1), 7);
  }

  // ---- 20

  private static void keep() {
    DayLight d = new DayLight();
    due("20: of none", d.keep(), 0);
    d.desk(3, 3);
    due("20: the desk was not there", d.loss(0), NO_LOSS);
    due("20: of one", d.keep(), 1);
    d.desk(3, 3);
    d.desk(0, 0);
    d.desk(7, 7);
    due("20: of four", d.keep(), 4);
    due("20: they are kept", d.loss(3), 0);
    d.cell(4, 3, 1);
    due("20: lost since", d.loss(0), 63);
    due("20: anew", d.keep(), 4);
    due("20: nothing lost since", d.loss(0), 0);
  }

  // ---- 21

  private static void loss() {
    DayLight d = oneDesk();
    due("21: not kept", d.loss(0), NO_LOSS);
    d.keep();
    due("21: nothing", d.loss(0), 0);
    d.cell(4, 3, 1);
    due("21: 1000 less 937", d.loss(0), 63);
    d.keep();
    d.window(4, 3, 4, true);
    due("21: 937 less 968", d.loss(0), -31);
    d.sun(0, 0, 1000);
    due("21: with all blinds up", d.loss(0), -31);
    d.desk(0, 0);
    due("21: a desk since", d.loss(1), NO_LOSS);
    due("21: the first as it was", d.loss(0), -31);
    int[] desks = {Integer.MIN_VALUE, -1, 2, 4, Integer.MAX_VALUE};
    for (int desk : desks) {
      due("21: desk " + desk, d.loss(desk), NO_LOSS);
    }
    d.move(0, 0, 0);
    due("21: moved to where all is open, 937 less 1000", d.loss(0), -63);
  }

  // ---- 22

  private static void count() {
    DayLight d = new DayLight();
    d.desk(0, 0);
    d.desk(0, 1);
    d.offer(0, 0, 1, 1);
    d.offer(0, 0, 1, 1);
    d.offer(0, 0, 1, 1);
    d.lose(0);
    for (int x = 0; x < 8; x++) {
      for (int y = 0; y < 8; y++) {
        d.cell(x, y, 1);
      }
    }
    for (int x = 0; x < 5; x++) {
      d.window(x, 7, 2, x > 2);
    }
    due("22: desks", d.count(0), 2);
    due("22: offers", d.count(1), 3);
    due("22: lost hours", d.count(2), 1);
    due("22: walls", d.count(3), 59);
    due("22: windows", d.count(4), 5);
    d.cell(0, 7, 0);
    d.cell(1, 7, 1);
    due("22: walls", d.count(3), 60);
    due("22: windows", d.count(4), 3);
    int[] whats = {Integer.MIN_VALUE, -1, 5, Integer.MAX_VALUE};
    for (int what : whats) {
      due("22: what " + what, d.count(what), OUTSIDE);
    }
  }
}
