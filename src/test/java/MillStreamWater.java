import java.io.IOException;

/** The document's terms, part I: each sentence has a test of its own, at the bounds that it names and beyond them. */
public final class MillStreamWater {
  private static final String I = "Terms";

  /** One mill of the greatest pond, which has so much water from hour 1 on, if nothing lets it out. */
  private static MillStream pond(int water) {
    MillStream x = new MillStream();
    x.mill(1000, 0, 4, 9);
    x.rain(0, 0, water);
    return x;
  }

  /** The same, with its wheel and its gate set from hour 1 on. */
  private static MillStream pond(int water, int wheel, int gate) {
    MillStream x = pond(water);
    x.clock(1);
    x.order(0, false, wheel);
    x.order(0, true, gate);
    return x;
  }

  /** Mills of such caps, with marks of 0. */
  private static MillStream mills(int... caps) {
    MillStream x = new MillStream();
    for (int cap : caps) {
      x.mill(cap, 0, 4, 9);
    }
    return x;
  }

  private static void sevenMills() {
    Sheet.says(I, "MILLS, numbered from 0 (the uppermost) on, 7 at most.");
    MillStream x = new MillStream();
    for (int i = 0; i < 7; i++) {
      Sheet.due("mill " + i, x.mill(5, 0, 1, 0), i);
    }
    Sheet.due("an eighth mill", x.mill(5, 0, 1, 0), -1);
    Sheet.due("count(0)", x.count(0), 7);
    Sheet.due("at(0, 6, 0, 0)", x.at(0, 6, 0, 0), 0);
    Sheet.due("at(0, 7, 0, 0)", x.at(0, 7, 0, 0), Sheet.NO_SUCH);
    x.rain(0, 0, 47);
    // What goes over at the uppermost goes from one to the next, an hour each, 5 staying everywhere.
    for (int m = 0; m < 7; m++) {
      Sheet.due("what comes to mill " + m, x.at(m, m, 1, 1), 47 - 5 * m);
    }
    Sheet.due("sea(6, 1)", x.sea(6, 1), 0);
    Sheet.due("sea(7, 1)", x.sea(7, 1), 12);
  }

  private static void levels() {
    Sheet.says(I, "Each has a POND with a LEVEL (water, at first 0),");
    MillStream x = mills(100, 100, 100);
    x.spring(9);
    for (int m = 0; m < 3; m++) {
      x.rain(0, m, 5 + m);
    }
    int[] then = {14, 6, 7};
    for (int m = 0; m < 3; m++) {
      Sheet.due("the level of mill " + m + " in hour 0", x.at(0, m, 3, 0), 0);
      Sheet.due("the level of mill " + m + " in hour 1", x.at(1, m, 3, 0), then[m]);
    }
  }

  private static void refusedMill(MillStream x, int cap, int mark, int wheel, int gate) {
    String call = "mill(" + cap + ", " + mark + ", " + wheel + ", " + gate + ")";
    int mills = x.count(0);
    Sheet.due(call, x.mill(cap, mark, wheel, gate), -1);
    Sheet.due("count(0) behind " + call, x.count(0), mills);
  }

  private static void caps() {
    Sheet.says(I, "a CAP (1 .. 1000),");
    MillStream x = new MillStream();
    refusedMill(x, 0, 0, 1, 0);
    refusedMill(x, -1, 0, 1, 0);
    refusedMill(x, 1001, 0, 1, 0);
    for (int far : Sheet.FAR) {
      refusedMill(x, far, 0, 1, 0);
    }
    Sheet.due("mill(1, 0, 1, 0)", x.mill(1, 0, 1, 0), 0);
    Sheet.due("mill(1000, 0, 1, 0)", x.mill(1000, 0, 1, 0), 1);
    Sheet.due("mill(2, 0, 1, 0)", x.mill(2, 0, 1, 0), 2);
    Sheet.due("mill(999, 0, 1, 0)", x.mill(999, 0, 1, 0), 3);
    x.rain(0, 0, 3);
    x.rain(0, 1, 1000);
    Sheet.due("a cap of 1 keeps 1", x.at(1, 0, 2, 0), 1);
    Sheet.due("a cap of 1000 keeps 1000", x.at(1, 1, 2, 0), 1000);
    Sheet.due("and no more", x.at(2, 1, 2, 0), 1000);
  }

  private static void marks() {
    Sheet.says(I, "a MARK (0 .. CAP),");
    MillStream x = new MillStream();
    refusedMill(x, 10, -1, 1, 0);
    refusedMill(x, 10, 11, 1, 0);
    refusedMill(x, 1, 2, 1, 0);
    refusedMill(x, 1000, 1001, 1, 0);
    for (int far : Sheet.FAR) {
      refusedMill(x, 10, far, 1, 0);
    }
    Sheet.due("mill(1000, 0, 1, 0)", x.mill(1000, 0, 1, 0), 0);
    Sheet.due("mill(10, 0, 1, 0)", x.mill(10, 0, 1, 0), 1);
    Sheet.due("mill(10, 10, 1, 0)", x.mill(10, 10, 1, 0), 2);
    Sheet.due("mill(1, 1, 1, 0)", x.mill(1, 1, 1, 0), 3);
    Sheet.due("mill(1000, 1000, 1, 0)", x.mill(1000, 1000, 1, 0), 4);
    x.rain(0, 0, 100);
    x.rain(0, 1, 10);
    x.rain(0, 2, 10);
    Sheet.due("a pond of a mark of 0 drowns with all it has", x.at(1, 0, 3, 4), 90);
    Sheet.due("a full pond of a mark at its cap does not", x.at(1, 1, 3, 4), 10);
  }

  private static void wheels() {
    Sheet.says(I, "a WHEEL of 0 .. its most (1 .. 4)");
    MillStream x = new MillStream();
    refusedMill(x, 10, 0, 0, 0);
    refusedMill(x, 10, 0, -1, 0);
    refusedMill(x, 10, 0, 5, 0);
    for (int far : Sheet.FAR) {
      refusedMill(x, 10, 0, far, 0);
    }
    for (int most = 1; most <= 4; most++) {
      Sheet.due("mill(10, 0, " + most + ", 0)", x.mill(10, 0, most, 9), most - 1);
      settings(x, most - 1, false, most);
    }
  }

  private static void gates() {
    Sheet.says(I, "and a GATE of 0 .. its most (0 .. 9).");
    MillStream x = new MillStream();
    refusedMill(x, 10, 0, 1, -1);
    refusedMill(x, 10, 0, 1, 10);
    for (int far : Sheet.FAR) {
      refusedMill(x, 10, 0, 1, far);
    }
    int[] mosts = {0, 1, 4, 5, 9};
    for (int m = 0; m < mosts.length; m++) {
      Sheet.due("mill(10, 0, 4, " + mosts[m] + ")", x.mill(10, 0, 4, mosts[m]), m);
      settings(x, m, true, mosts[m]);
    }
  }

  /** All settings from below 0 to above the most: which are taken, and what is set then. */
  private static void settings(MillStream x, int m, boolean gate, int most) {
    int set = 0;
    for (int v = -1; v <= most + 1; v++) {
      int orders = x.count(2);
      boolean can = v >= 0 && v <= most;
      Sheet.due("order(" + m + ", " + gate + ", " + v + ")", x.order(m, gate, v), can ? orders : -1);
      Sheet.due("count(2)", x.count(2), can ? orders + 1 : orders);
      set = can ? v : set;
      Sheet.due("what is set then", x.at(0, m, 0, gate ? 3 : 2), set);
    }
    for (int far : Sheet.FAR) {
      Sheet.due("order(" + m + ", " + gate + ", " + far + ")", x.order(m, gate, far), -1);
    }
  }

  private static void hours() {
    Sheet.says(I, "HOURS go from 0 to 239;");
    MillStream x = mills(1000);
    x.spring(1);
    Sheet.due("at(-1, 0, 0, 0)", x.at(-1, 0, 0, 0), Sheet.NO_SUCH);
    Sheet.due("at(0, 0, 0, 0)", x.at(0, 0, 0, 0), 0);
    Sheet.due("at(239, 0, 0, 0)", x.at(239, 0, 0, 0), 239);
    Sheet.due("at(240, 0, 0, 0)", x.at(240, 0, 0, 0), Sheet.NO_SUCH);
    Sheet.due("clock(239)", x.clock(239), true);
    Sheet.due("clock(240)", x.clock(240), false);
  }

  private static void days() {
    Sheet.says(I, "HOUR h is hour h % 24 of DAY h / 24.");
    MillStream x = mills(10);
    Sheet.take(x, "act a from 0;any must hour==23;any must day==0;any must hour==0;any must day==1;any must day==9;end");
    Sheet.due("hour 0 of day 0", Sheet.broken(x, 0), "0 3 4");
    Sheet.due("hour 1 of day 0", Sheet.broken(x, 1), "0 2 3 4");
    Sheet.due("hour 23 of day 0", Sheet.broken(x, 23), "2 3 4");
    Sheet.due("hour 0 of day 1", Sheet.broken(x, 24), "0 1 4");
    Sheet.due("hour 23 of day 1", Sheet.broken(x, 47), "1 2 4");
    Sheet.due("hour 0 of day 2", Sheet.broken(x, 48), "0 1 3 4");
    Sheet.due("hour 0 of day 9", Sheet.broken(x, 216), "0 1 3");
    Sheet.due("hour 23 of day 9", Sheet.broken(x, 239), "1 2 3");
  }

  private static void theSpring() {
    Sheet.says(I, "The SPRING gives MILL 0 so much each HOUR (0 .. 100; 0 at first; the same for all HOURS).");
    MillStream x = mills(1000, 1000);
    Sheet.due("at first", x.at(0, 0, 0, 1), 0);
    Sheet.due("at first, in the last hour", x.at(239, 0, 0, 1), 0);
    Sheet.due("spring(100)", x.spring(100), true);
    Sheet.due("spring(101)", x.spring(101), false);
    Sheet.due("spring(-1)", x.spring(-1), false);
    for (int h : new int[] {0, 1, 100, 239}) {
      Sheet.due("to mill 0 in hour " + h, x.at(h, 0, 0, 1), 100);
    }
    Sheet.due("to mill 1 in hour 0", x.at(0, 1, 0, 1), 0);
    Sheet.due("to mill 1 in hour 9", x.at(9, 1, 0, 1), 0);
    x.clock(100);
    Sheet.due("spring(7) in hour 100", x.spring(7), true);
    for (int h : new int[] {0, 99, 100, 239}) {
      Sheet.due("to mill 0 in hour " + h + " then", x.at(h, 0, 0, 1), 7);
    }
    Sheet.due("spring(0)", x.spring(0), true);
    Sheet.due("to mill 0 in hour 3 then", x.at(3, 0, 0, 1), 0);
  }

  private static void factsOfRain() {
    Sheet.says(I, "RAIN: facts, numbered from 0 on, 400 at most:");
    MillStream x = mills(1000);
    for (int i = 0; i < 400; i++) {
      Sheet.due("fact " + i, x.rain(i % 240, 0, i % 7), i);
    }
    Sheet.due("a 401st fact", x.rain(5, 0, 900), -1);
    Sheet.due("count(1)", x.count(1), 400);
    Sheet.due("the rain of hour 5", x.at(5, 0, 400, 1), 245 % 7);
    Sheet.due("the rain of hour 159", x.at(159, 0, 400, 1), 399 % 7);
    Sheet.due("the rain of hour 159, as known by 399", x.at(159, 0, 399, 1), 159 % 7);

    Sheet.says(I, "in HOUR h into the POND of MILL m so much (0 .. 1000).");
    MillStream y = mills(1000, 1000);
    Sheet.due("rain(3, 1, -1)", y.rain(3, 1, -1), -1);
    Sheet.due("rain(3, 1, 1001)", y.rain(3, 1, 1001), -1);
    for (int far : Sheet.FAR) {
      Sheet.due("rain(3, 1, " + far + ")", y.rain(3, 1, far), -1);
    }
    Sheet.due("count(1)", y.count(1), 0);
    Sheet.due("rain(3, 1, 1000)", y.rain(3, 1, 1000), 0);
    Sheet.due("rain(239, 0, 1)", y.rain(239, 0, 1), 1);
    Sheet.due("rain(0, 0, 2)", y.rain(0, 0, 2), 2);
    int[][] fallen = {{3, 1, 1000}, {3, 0, 0}, {2, 1, 0}, {4, 1, 0}, {239, 0, 1}, {239, 1, 0}, {238, 0, 0}, {0, 0, 2}, {1, 0, 0}};
    for (int[] f : fallen) {
      Sheet.due("in hour " + f[0] + " into mill " + f[1], y.at(f[0], f[1], 3, 1), f[2]);
    }
    Sheet.due("rain(3, 1, 0)", y.rain(3, 1, 0), 3);
    Sheet.due("in hour 3 into mill 1", y.at(3, 1, 4, 1), 0);
  }

  private static void knownRain() {
    Sheet.says(I, "As KNOWN by n: of the first n facts the latest one for an HOUR and MILL counts (none: 0).");
    MillStream x = mills(1000, 1000);
    x.rain(2, 0, 7);
    x.rain(2, 0, 0);
    x.rain(2, 0, 9);
    x.rain(2, 1, 4);
    x.rain(3, 0, 5);
    int[] hourTwo = {0, 7, 0, 9, 9, 9};
    for (int n = 0; n <= 5; n++) {
      Sheet.due("mill 0 in hour 2, as known by " + n, x.at(2, 0, n, 1), hourTwo[n]);
      Sheet.due("mill 1 in hour 2, as known by " + n, x.at(2, 1, n, 1), n < 4 ? 0 : 4);
      Sheet.due("mill 0 in hour 3, as known by " + n, x.at(3, 0, n, 1), n < 5 ? 0 : 5);
    }
    for (int n = 5; n >= 0; n--) {
      Sheet.due("mill 0 in hour 2, as known by " + n + " again", x.at(2, 0, n, 1), hourTwo[n]);
      Sheet.due("mill 0 in hour 3, as known by " + n + " again", x.at(3, 0, n, 1), n < 5 ? 0 : 5);
    }
  }

  private static void orders() {
    Sheet.says(I, "ORDERS, numbered from 0 on, 200 at most:");
    MillStream x = mills(10);
    for (int i = 0; i < 200; i++) {
      Sheet.due("order " + i, x.order(0, i % 2 == 1, i % 5), i);
    }
    Sheet.due("a 201st order, of the wheel", x.order(0, false, 0), -1);
    Sheet.due("a 201st order, of the gate", x.order(0, true, 0), -1);
    Sheet.due("count(2)", x.count(2), 200);
    Sheet.due("the wheel by order 198", x.at(0, 0, 0, 2), 3);
    Sheet.due("the gate by order 199", x.at(0, 0, 0, 3), 4);

    Sheet.says(I, "at the CLOCK's HOUR the WHEEL (or the GATE) of a MILL is set to so much; from that HOUR on, till its next one.");
    MillStream y = mills(10, 10);
    y.clock(5);
    y.order(1, false, 3);
    y.clock(9);
    y.order(1, false, 1);
    y.order(1, true, 7);
    y.clock(239);
    y.order(1, false, 4);
    int[][] wheels = {{0, 0}, {4, 0}, {5, 3}, {8, 3}, {9, 1}, {238, 1}, {239, 4}};
    for (int[] w : wheels) {
      Sheet.due("the wheel of mill 1 in hour " + w[0], y.at(w[0], 1, 0, 2), w[1]);
      Sheet.due("the wheel of mill 0 in hour " + w[0], y.at(w[0], 0, 0, 2), 0);
      Sheet.due("the gate of mill 1 in hour " + w[0], y.at(w[0], 1, 0, 3), w[0] < 9 ? 0 : 7);
      Sheet.due("the gate of mill 0 in hour " + w[0], y.at(w[0], 0, 0, 3), 0);
    }
  }

  private static void firstSettings() {
    Sheet.says(I, "At first all are 0;");
    MillStream x = mills(10, 20, 30, 40, 50, 60, 70);
    for (int m = 0; m < 7; m++) {
      Sheet.due("the wheel of mill " + m, x.at(0, m, 0, 2), 0);
      Sheet.due("the gate of mill " + m, x.at(239, m, 0, 3), 0);
    }
    Sheet.due("nothing is let out", pond(50).at(239, 0, 1, 0), 50);

    Sheet.says(I, "of one HOUR the latest counts.");
    MillStream y = mills(10, 10);
    y.clock(7);
    y.order(0, false, 4);
    y.order(0, true, 9);
    y.order(1, false, 3);
    y.order(0, false, 1);
    y.order(0, true, 2);
    y.order(0, false, 2);
    Sheet.due("the wheel", y.at(7, 0, 0, 2), 2);
    Sheet.due("the gate", y.at(7, 0, 0, 3), 2);
    Sheet.due("the other mill's wheel", y.at(7, 1, 0, 2), 3);
    y.order(0, false, 0);
    Sheet.due("the wheel, if the latest is 0", y.at(7, 0, 0, 2), 0);
  }

  private static void levelsAsAtFirst() {
    Sheet.says(I, "AN HOUR, with all LEVELS as at its beginning; for each MILL, from the uppermost:");
    MillStream x = mills(100, 100);
    x.rain(0, 0, 50);
    x.rain(0, 1, 10);
    x.rain(1, 1, 30);
    x.order(1, false, 1);
    x.clock(1);
    x.order(0, false, 2);
    // Mill 1's pond has 8 at the beginning of hour 1, 36 at that of hour 2: its rain drowns nothing before.
    Sheet.row(x, 1, 0, 50, 0, 2, 0, 50 - 8, 4, 4, 0, 0, 4);
    Sheet.row(x, 1, 1, 8, 30, 1, 0, 8, 2, 2, 0, 0, 2);
    Sheet.row(x, 2, 0, 46, 0, 2, 0, 46 - 36, 4, 4, 0, 0, 4);
    Sheet.row(x, 2, 1, 36, 4, 1, 0, 36, 2, 2, 0, 0, 2);
    // Mill 0 comes first, and yet mill 1 is told what the level above was.
    Sheet.take(x, "act a from 0;mill 1 opens 5 if above==50;mill 1 must above!=46;mill 0 must below!=36;end");
    Sheet.due("the gate of mill 1 in hour 1", x.at(1, 1, 3, 3), 5);
    Sheet.due("the gate of mill 1 in hour 2", x.at(2, 1, 3, 3), 0);
    Sheet.due("what is broken in hour 1", Sheet.broken(x, 1), "");
    Sheet.due("what is broken in hour 2", Sheet.broken(x, 2), "101");
  }

  private static void in() {
    Sheet.says(I, "IN: RAIN, and what the MILL above let out in the HOUR ahead (MILL 0: the SPRING instead).");
    MillStream x = mills(10, 100, 100);
    x.spring(7);
    x.rain(0, 0, 20);
    x.rain(1, 1, 5);
    x.rain(1, 2, 6);
    x.order(0, false, 2);
    x.order(0, true, 1);
    Sheet.row(x, 0, 0, 0, 27, 2, 1, 0, 4, 0, 3, 10, 17);
    Sheet.due("nothing was let out ahead of hour 0", x.at(0, 1, 3, 1), 0);
    Sheet.due("the spring alone", x.at(1, 0, 3, 1), 7);
    Sheet.due("wheel, gate and what went over, and rain", x.at(1, 1, 3, 1), 17 + 5);
    Sheet.due("not from two mills above", x.at(1, 2, 3, 1), 6);
    Sheet.due("the hour behind it", x.at(2, 1, 3, 1), 7);
  }

  private static void water() {
    Sheet.says(I, "A is LEVEL + IN.");
    MillStream x = pond(3, 4, 0);
    x.rain(1, 0, 4);
    Sheet.due("what the wheel can use", x.at(1, 0, 2, 5), 7);
    Sheet.due("without the rain", x.at(1, 0, 1, 5), 3);
    MillStream y = pond(3, 0, 9);
    y.rain(1, 0, 4);
    Sheet.due("what the gate can let out", y.at(1, 0, 2, 7), 7);
    Sheet.due("without the rain", y.at(1, 0, 1, 7), 3);
    MillStream z = pond(997);
    z.rain(1, 0, 5);
    Sheet.due("what goes over", z.at(1, 0, 2, 8), 2);
  }

  private static int opened(int ordered, String rules) {
    MillStream x = pond(100);
    x.order(0, true, ordered);
    Sheet.due("read() of " + rules, Sheet.take(x, "act a from 0;" + rules + "end"), 0);
    return x.at(1, 0, 1, 3);
  }

  private static void opens() {
    Sheet.says(I, "The GATE is that by ORDERS; each 'opens' of the LAW that holds for it makes it at least its E (at most the GATE's most).");
    Sheet.due("by orders", opened(2, ""), 2);
    Sheet.due("to less", opened(2, "any opens 1;"), 2);
    Sheet.due("to as much", opened(2, "any opens 2;"), 2);
    Sheet.due("to one more", opened(2, "any opens 3;"), 3);
    Sheet.due("to its most", opened(2, "any opens 9;"), 9);
    Sheet.due("beyond its most", opened(2, "any opens 10;"), 9);
    Sheet.due("far beyond its most", opened(0, "any opens 9999*9999;"), 9);
    Sheet.due("to 0", opened(2, "any opens 0;"), 2);
    Sheet.due("below 0", opened(0, "any opens -1;"), 0);
    Sheet.due("below 0, with an order", opened(2, "any opens -9;"), 2);
    Sheet.due("the first is the greatest", opened(1, "any opens 5;any opens 3;"), 5);
    Sheet.due("the last is the greatest", opened(1, "any opens 3;any opens 5;"), 5);
    Sheet.due("one does not hold", opened(1, "any opens 3;any opens 5 if 1==2;"), 3);
    Sheet.due("one is for another mill", opened(1, "any opens 3;mill 1 opens 5;"), 3);
    Sheet.due("an order of more than what it is opened to", opened(7, "any opens 5;"), 7);
    MillStream x = new MillStream();
    x.mill(100, 0, 4, 0);
    x.mill(100, 0, 4, 1);
    x.rain(0, 0, 50);
    Sheet.take(x, "act a from 0;any opens 5;end");
    Sheet.due("a gate of 0 at most", x.at(1, 0, 1, 3), 0);
    Sheet.due("what goes through it", x.at(1, 0, 1, 7), 0);
    Sheet.due("a gate of 1 at most", x.at(1, 1, 1, 3), 1);
    MillStream y = pond(100);
    Sheet.take(y, "act a from 0;any opens 4;end");
    Sheet.due("what an opened gate lets out", y.at(1, 0, 1, 7), 12);
  }

  /** Three mills, the marks being 5, 30 and 0, with so much in the ponds of the two upper ones and 90 in the third. */
  private static MillStream three(int level, int next) {
    MillStream x = new MillStream();
    x.mill(1000, 5, 4, 9);
    x.mill(1000, 30, 4, 9);
    x.mill(1000, 0, 4, 9);
    x.rain(0, 0, level);
    x.rain(0, 1, next);
    x.rain(0, 2, 90);
    return x;
  }

  private static void back() {
    Sheet.says(I, "BACK: how much the LEVEL of the next MILL is above its MARK (0, if it isn't, or there is none).");
    Sheet.due("it is empty", three(50, 0).at(1, 0, 3, 4), 50);
    Sheet.due("it is below its mark", three(50, 29).at(1, 0, 3, 4), 50);
    Sheet.due("it is at its mark", three(50, 30).at(1, 0, 3, 4), 50);
    Sheet.due("it is one above its mark", three(50, 31).at(1, 0, 3, 4), 49);
    Sheet.due("it is ten above its mark", three(50, 40).at(1, 0, 3, 4), 40);
    Sheet.due("that of the mill in the middle", three(50, 100).at(1, 1, 3, 4), 10);
    Sheet.due("there is none below the last", three(50, 100).at(1, 2, 3, 4), 90);

    Sheet.says(I, "HEAD: LEVEL - BACK.");
    Sheet.due("one is left", three(50, 79).at(1, 0, 3, 4), 1);
    Sheet.due("none is left", three(50, 80).at(1, 0, 3, 4), 0);
    Sheet.due("one too few", three(50, 81).at(1, 0, 3, 4), -1);
    Sheet.due("far below 0", three(0, 1000).at(1, 0, 3, 4), -970);
    MillStream x = three(50, 40);
    x.rain(1, 0, 500);
    Sheet.due("what comes in is no part of it", x.at(1, 0, 4, 4), 40);
  }

  private static void used() {
    Sheet.says(I, "The WHEEL of w uses U, 2 * w or A, the lesser;");
    int[][] cases = {{0, 9, 0}, {4, 0, 0}, {1, 1, 1}, {1, 2, 2}, {1, 3, 2}, {2, 3, 3}, {2, 4, 4}, {2, 5, 4}, {4, 7, 7}, {4, 8, 8},
      {4, 9, 8}, {4, 1000, 8}};
    for (int[] c : cases) {
      MillStream x = pond(c[1], c[0], 0);
      Sheet.due("a wheel of " + c[0] + " with " + c[1], x.at(1, 0, 1, 5), c[2]);
      Sheet.due("what is left then", x.at(2, 0, 1, 0), c[1] - c[2]);
    }
  }

  /** The work of a wheel of 4 on a head that is 50 less what the next pond is above its mark of 30. */
  private static int workOf(int next, int factor) {
    MillStream x = three(50, next);
    x.clock(1);
    x.order(0, false, 4);
    x.factor(0, factor);
    return x.at(1, 0, 3, 6);
  }

  private static void work() {
    Sheet.says(I, "WORK is U times the FACTOR of HEAD (0 of a HEAD of 0 and below).");
    Sheet.due("of a head of 50", workOf(0, 7), 56);
    Sheet.due("of a head of 1", workOf(79, 7), 56);
    Sheet.due("of a head of 0", workOf(80, 7), 0);
    Sheet.due("of a head of -1", workOf(81, 7), 0);
    Sheet.due("of a head of -10", workOf(90, 7), 0);
    Sheet.due("of a head of -920", workOf(1000, 7), 0);
    Sheet.due("below 0, of a head of 1", workOf(79, -7), -56);
    Sheet.due("below 0, of a head of 0", workOf(80, -7), 0);
    Sheet.due("below 0, of a head of -1", workOf(81, -7), 0);
    Sheet.due("a factor of 0", workOf(0, 0), 0);
    Sheet.due("the greatest", workOf(0, 100), 800);
    MillStream x = pond(3, 4, 9);
    x.factor(0, 7);
    Sheet.due("of what is used, if it is less than the wheel could", x.at(1, 0, 1, 6), 21);
    MillStream y = pond(100);
    y.order(0, false, 4);
    Sheet.due("what is used in hour 0", y.at(0, 0, 1, 5), 8);
    Sheet.due("the level is 0 in hour 0", y.at(0, 0, 1, 6), 0);
    y.factors(-1);
    Sheet.due("the same if the factors are missing", y.at(0, 0, 1, 6), 0);
  }

  private static void through() {
    Sheet.says(I, "Then the GATE of g lets out 3 * g, or what is left of A, the lesser;");
    // Water, wheel, gate, and what is due.
    int[][] cases = {{10, 2, 1, 3}, {10, 2, 2, 6}, {10, 2, 3, 6}, {9, 2, 2, 5}, {3, 2, 9, 0}, {4, 2, 1, 0}, {5, 2, 1, 1}, {27, 0, 9, 27},
      {28, 0, 9, 27}, {26, 0, 9, 26}, {5, 0, 0, 0}, {0, 0, 9, 0}};
    for (int[] c : cases) {
      MillStream x = pond(c[0], c[1], c[2]);
      Sheet.due("a gate of " + c[2] + " with " + c[0] + " and a wheel of " + c[1], x.at(1, 0, 1, 7), c[3]);
      Sheet.due("what is left then", x.at(2, 0, 1, 0), c[0] - Math.min(c[0], 2 * c[1]) - c[3]);
    }
  }

  private static MillStream ten(int rain, int wheel, int gate) {
    MillStream x = mills(10);
    x.rain(0, 0, rain);
    x.order(0, false, wheel);
    x.order(0, true, gate);
    return x;
  }

  private static void spill() {
    Sheet.says(I, "then what is left above CAP goes over: SPILL.");
    Sheet.due("below the cap", ten(9, 0, 0).at(0, 0, 1, 8), 0);
    Sheet.due("at the cap", ten(10, 0, 0).at(0, 0, 1, 8), 0);
    Sheet.due("one above it", ten(11, 0, 0).at(0, 0, 1, 8), 1);
    Sheet.due("far above it", ten(1000, 0, 0).at(0, 0, 1, 8), 990);
    Sheet.due("at the cap behind wheel and gate", ten(20, 2, 2).at(0, 0, 1, 8), 0);
    Sheet.due("one above it behind wheel and gate", ten(21, 2, 2).at(0, 0, 1, 8), 1);
    Sheet.due("nothing is left", ten(6, 4, 9).at(0, 0, 1, 8), 0);

    Sheet.says(I, "What is left is the LEVEL at the next HOUR's beginning;");
    Sheet.due("all", ten(9, 0, 0).at(1, 0, 1, 0), 9);
    Sheet.due("the cap", ten(1000, 0, 0).at(1, 0, 1, 0), 10);
    Sheet.due("behind wheel and gate", ten(9, 2, 1).at(1, 0, 1, 0), 2);
    Sheet.due("behind all", ten(21, 2, 2).at(1, 0, 1, 0), 10);
    Sheet.due("nothing", ten(7, 2, 1).at(1, 0, 1, 0), 0);
    Sheet.due("two hours on", ten(9, 1, 0).at(2, 0, 1, 0), 5);

    Sheet.says(I, "OUT is all that went.");
    Sheet.due("nothing", ten(10, 0, 0).at(0, 0, 1, 9), 0);
    Sheet.due("by the wheel", ten(9, 2, 0).at(0, 0, 1, 9), 4);
    Sheet.due("by the gate", ten(9, 0, 2).at(0, 0, 1, 9), 6);
    Sheet.due("over", ten(12, 0, 0).at(0, 0, 1, 9), 2);
    Sheet.due("by all", ten(21, 2, 2).at(0, 0, 1, 9), 11);
    Sheet.due("all that there is", ten(6, 4, 9).at(0, 0, 1, 9), 6);
  }

  private static void toTheSea() {
    Sheet.says(I, "What the last MILL lets out goes to the SEA.");
    MillStream x = mills(10, 10);
    x.rain(0, 0, 15);
    x.rain(0, 1, 13);
    Sheet.due("in hour 0", x.sea(1, 2), 3);
    Sheet.due("in hours 0 and 1", x.sea(2, 2), 3 + 5);
    Sheet.due("in all hours", x.sea(240, 2), 3 + 5);
    Sheet.due("of one mill", ten(21, 2, 2).sea(1, 1), 11);
    x.order(1, false, 1);
    x.order(1, true, 1);
    Sheet.due("by wheel and gate", x.sea(1, 2), 5);
    Sheet.due("all of it in the end", x.sea(240, 2), 18);
  }

  private static void factorRow() {
    Sheet.says(I, "FACTORS are a row of bytes, told for all MILLS, 1 .. 20 of them (at first one 1):");
    MillStream x = mills(1000, 1000);
    x.rain(0, 0, 50);
    x.rain(0, 1, 60);
    x.order(0, false, 1);
    x.order(1, false, 2);
    Sheet.due("count(7)", x.count(7), 1);
    Sheet.due("factor(1, 5)", x.factor(1, 5), false);
    Sheet.due("at first, mill 1", x.at(1, 1, 2, 6), 4);
    Sheet.due("factor(0, 5)", x.factor(0, 5), true);
    Sheet.due("mill 1", x.at(1, 1, 2, 6), 20);
    Sheet.due("mill 0 is drowned", x.at(1, 0, 2, 6), 0);
    x.rain(0, 1, 20);
    Sheet.due("mill 0", x.at(1, 0, 3, 6), 10);
    Sheet.due("factors(0)", x.factors(0), false);
    Sheet.due("factors(21)", x.factors(21), false);
    Sheet.due("count(7)", x.count(7), 1);
    Sheet.due("factors(20)", x.factors(20), true);
    Sheet.due("factor(19, 1)", x.factor(19, 1), true);
    Sheet.due("factor(20, 1)", x.factor(20, 1), false);
  }

  private static int workOfHead(int head, int... row) {
    MillStream x = pond(head, 1, 0);
    Sheet.due("factors(" + row.length + ")", x.factors(row.length), true);
    for (int i = 0; i < row.length; i++) {
      x.factor(i, row[i]);
    }
    return x.at(1, 0, 1, 6);
  }

  private static void factorOfHead() {
    Sheet.says(I, "that of HEAD is the HEAD / 10-th, or the last one;");
    int[][] three = {{2, 2}, {9, 2}, {10, 3}, {11, 3}, {19, 3}, {20, 5}, {29, 5}, {30, 5}, {100, 5}, {1000, 5}};
    for (int[] c : three) {
      Sheet.due("of three, of a head of " + c[0], workOfHead(c[0], 2, 3, 5), 2 * c[1]);
    }
    Sheet.due("of three, of a head of 1", workOfHead(1, 2, 3, 5), 2);
    Sheet.due("of one, of a head of 10", workOfHead(10, 7), 14);
    Sheet.due("of one, of a head of 1000", workOfHead(1000, 7), 14);
    int[] row = new int[20];
    for (int i = 0; i < 20; i++) {
      row[i] = 10 * i - 100;
    }
    int[][] twenty = {{9, 0}, {10, 1}, {179, 17}, {180, 18}, {189, 18}, {190, 19}, {199, 19}, {200, 19}, {209, 19}, {1000, 19}};
    for (int[] c : twenty) {
      Sheet.due("of twenty, of a head of " + c[0], workOfHead(c[0], row), 2 * row[c[1]]);
    }

    Sheet.says(I, "or the row is MISSING: then all are 1.");
    MillStream x = pond(35, 2, 0);
    x.factors(4);
    x.factor(0, 9);
    x.factor(3, 6);
    Sheet.due("ahead of it", x.at(1, 0, 1, 6), 24);
    Sheet.due("factors(-1)", x.factors(-1), true);
    for (int h = 1; h < 9; h++) {
      Sheet.due("in hour " + h, x.at(h, 0, 1, 6), 4);
    }
    Sheet.due("the last water", x.at(9, 0, 1, 6), 3);
    Sheet.due("no water", x.at(10, 0, 1, 6), 0);
    Sheet.due("factor(0, 9)", x.factor(0, 9), false);
    Sheet.due("factor(-1, 9)", x.factor(-1, 9), false);
    Sheet.due("count(7)", x.count(7), -1);
  }

  /** A wheel of 4 with water enough: 8 of work in each hour from hour 1 on. */
  private static MillStream ground(int... works) {
    MillStream x = pond(900);
    x.order(0, false, 4);
    for (int w : works) {
      x.grist(0, w);
    }
    return x;
  }

  private static void grists() {
    Sheet.says(I, "GRISTS, 60 at most: brought to a MILL at the CLOCK's HOUR, of so much work.");
    MillStream x = mills(10, 10);
    for (int i = 0; i < 60; i++) {
      x.clock(i / 2);
      Sheet.due("grist " + i, x.grist(i % 2, 1 + i), i);
    }
    Sheet.due("a 61st grist", x.grist(0, 5), -1);
    Sheet.due("count(3)", x.count(3), 60);
    Sheet.due("of a 61st grist", x.told(60, 0, 1), -1);
    Sheet.due("the end of grist 59, of a mill that stands", x.told(59, 0, 3), -1);
    Sheet.due("the tolls of 30 that are not finished", x.tolls(1, 240, 0), 0);
    for (int i = 0; i < 60; i++) {
      Sheet.due("the mill of grist " + i, x.told(i, 0, 0), i % 2);
      Sheet.due("the work of grist " + i, x.told(i, 0, 1), 1 + i);
      Sheet.due("the hour of grist " + i, x.told(i, 0, 2), i / 2);
    }

    Sheet.says(I, "A MILL grinds them one behind the other, as they were brought;");
    MillStream y = ground(20, 20, 1);
    Sheet.due("the first", y.told(0, 1, 3), 3);
    Sheet.due("the second", y.told(1, 1, 3), 5);
    Sheet.due("the third", y.told(2, 1, 3), 6);
    y.clock(3);
    Sheet.due("of the first, by hour 3", y.told(0, 1, 4), 16);
    Sheet.due("of the second, by hour 3", y.told(1, 1, 4), 0);
    y.clock(4);
    Sheet.due("of the first, by hour 4", y.told(0, 1, 4), 20);
    Sheet.due("of the second, by hour 4", y.told(1, 1, 4), 4);
    Sheet.due("of the third, by hour 4", y.told(2, 1, 4), 0);
    // Each mill has its own work and its own grists.
    MillStream z = mills(1000, 1000);
    z.rain(0, 1, 500);
    z.order(1, false, 1);
    z.grist(0, 2);
    z.grist(1, 2);
    Sheet.due("of a mill without work", z.told(0, 1, 3), -1);
    Sheet.due("of a mill with work, behind another's grist", z.told(1, 1, 3), 1);
  }

  private static void turns() {
    Sheet.says(I, "the WORK of an HOUR goes to those that were brought by then;");
    MillStream x = ground();
    x.clock(3);
    x.grist(0, 8);
    x.clock(7);
    x.grist(0, 9);
    Sheet.due("brought in hour 3", x.told(0, 1, 3), 3);
    Sheet.due("brought in hour 7, of one more than an hour's work", x.told(1, 1, 3), 8);
    MillStream w = ground();
    w.clock(239);
    Sheet.due("the water is gone in hour 239", w.at(239, 0, 1, 6), 0);
    w.spring(8);
    Sheet.due("with a spring it is not", w.at(239, 0, 1, 6), 8);
    w.grist(0, 8);
    w.grist(0, 1);
    Sheet.due("brought in the last hour", w.told(0, 1, 3), 239);
    Sheet.due("brought in the last hour, too late", w.told(1, 1, 3), -1);

    Sheet.says(I, "one may end and others go on in one HOUR;");
    MillStream y = ground(2, 3, 3, 8, 9, 6, 1, 7, 1);
    int[] ends = {1, 1, 1, 2, 4, 4, 4, 5, 5};
    for (int g = 0; g < ends.length; g++) {
      Sheet.due("the end of grist " + g, y.told(g, 1, 3), ends[g]);
    }
    y.clock(4);
    Sheet.due("of grist 4 by hour 4", y.told(4, 1, 4), 8);
    Sheet.due("of grist 5 by hour 4", y.told(5, 1, 4), 0);
    MillStream many = ground();
    for (int g = 0; g < 60; g++) {
      many.grist(0, 16);
    }
    Sheet.due("the end of the last of sixty", many.told(59, 1, 3), -1);
    many.factor(0, 100);
    Sheet.due("the end of the last of sixty, which takes 960 of 800 an hour", many.told(59, 1, 3), 2);
    Sheet.due("the end of the fiftieth", many.told(49, 1, 3), 1);
    Sheet.due("the tolls of fifty", many.tolls(0, 2, 1), 50);
    Sheet.due("the tolls of sixty", many.tolls(0, 3, 1), 60);

    Sheet.says(I, "WORK without a GRIST is none's,");
    MillStream z = ground(3);
    z.clock(2);
    z.grist(0, 9);
    Sheet.due("the first", z.told(0, 1, 3), 1);
    Sheet.due("the second has nothing of hour 1", z.told(1, 1, 3), 3);
    z.clock(3);
    Sheet.due("of the second by hour 3", z.told(1, 1, 4), 8);
  }

  private static void workBelowNothing() {
    Sheet.says(I, "WORK below 0 grinds nothing.");
    MillStream x = new MillStream();
    x.mill(1000, 0, 4, 9);
    x.rain(0, 0, 58);
    x.order(0, false, 4);
    x.grist(0, 20);
    x.factors(6);
    x.factor(4, -5);
    x.factor(3, 0);
    // Heads of 50, 42, 34, 26, 18, ..: works of 8, -40, 0, 8, 8, ..
    int[] works = {0, 8, -40, 0, 8, 8};
    int[] by = {0, 0, 8, 8, 8, 16};
    for (int h = 0; h < works.length; h++) {
      x.clock(h);
      Sheet.due("the work of hour " + h, x.at(h, 0, 1, 6), works[h]);
      Sheet.due("what is ground by hour " + h, x.told(0, 1, 4), by[h]);
    }
    Sheet.due("the end", x.told(0, 1, 3), 5);
    Sheet.due("tolls(0, 6, 1)", x.tolls(0, 6, 1), 1);
    x.factor(5, -1);
    Sheet.due("what is ground by hour 5, the first work being below 0", x.told(0, 1, 4), 8);
    Sheet.due("the end then", x.told(0, 1, 3), 6);
  }

  private static int tollOf(int... works) {
    return ground(works).tolls(0, 240, 1);
  }

  private static void tolls() {
    Sheet.says(I, "One that is FINISHED gives its MILL a TOLL, a sixteenth of it (the whole part).");
    int[][] cases = {{1, 0}, {15, 0}, {16, 1}, {17, 1}, {31, 1}, {32, 2}, {47, 2}, {48, 3}, {800, 50}};
    for (int[] c : cases) {
      Sheet.due("of a grist of " + c[0], tollOf(c[0]), c[1]);
    }
    Sheet.due("of two of 15", tollOf(15, 15), 0);
    Sheet.due("of two of 31", tollOf(31, 31), 2);
    Sheet.due("of two of 24", tollOf(24, 24), 2);
    Sheet.due("of one that is not finished", tollOf(10000), 0);
    Sheet.due("of one, with another that is not finished", tollOf(32, 10000), 2);
  }

  public static void main(String[] args) throws IOException {
    Sheet.begin();
    sevenMills();
    levels();
    caps();
    marks();
    wheels();
    gates();
    hours();
    days();
    theSpring();
    factsOfRain();
    knownRain();
    orders();
    firstSettings();
    levelsAsAtFirst();
    in();
    water();
    opens();
    back();
    used();
    work();
    through();
    spill();
    toTheSea();
    factorRow();
    factorOfHead();
    grists();
    turns();
    workBelowNothing();
    tolls();
    Sheet.end("Terms");
  }
}
