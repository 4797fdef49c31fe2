import java.io.IOException;

/** Part III of the terms and the promises 1 to 24: each sentence has a test of its own, at the bounds that it names and beyond. */
public final class MillStreamCalls {
  private static final String III = "III";
  private static final int BLANKS = 0x20202020;

  private static MillStream mills(int... caps) {
    MillStream x = new MillStream();
    for (int cap : caps) {
      x.mill(cap, 0, 4, 9);
    }
    return x;
  }

  /** One mill of the greatest pond, which has so much water from hour 1 on, if nothing lets it out. */
  private static MillStream pond(int water) {
    MillStream x = mills(1000);
    x.rain(0, 0, water);
    return x;
  }

  private static int blanks(MillStream x) {
    return x.feed(BLANKS, BLANKS, BLANKS, BLANKS, BLANKS);
  }

  // ---- III

  /** A wheel of 1 from hour 0 on, of 3 from hour 5 on, of 0 from hour 10 on: works of 2, of 6, of none. */
  private static MillStream wheels() {
    MillStream x = pond(900);
    x.order(0, false, 1);
    x.clock(5);
    x.order(0, false, 3);
    x.clock(10);
    x.order(0, false, 0);
    return x;
  }

  private static void lossByOrder() {
    Sheet.says(III, "LOSS: an ORDER is taken as never given (what was set ahead stays):");
    MillStream x = wheels();
    Sheet.due("order 0: nothing was set ahead", x.loss(0, 0, 0, 5, 1), -8);
    Sheet.due("order 1: a wheel of 1 stays", x.loss(1, 0, 0, 10, 1), 5 * (2 - 6));
    Sheet.due("order 2: a wheel of 3 stays", x.loss(2, 0, 0, 12, 1), 2 * 6);
    Sheet.due("order 0: what is set behind it stays", x.loss(0, 0, 5, 10, 1), 0);
    x.order(0, false, 2);
    Sheet.due("order 2, and a later one of its hour", x.loss(2, 0, 0, 240, 1), 0);
    Sheet.due("order 3: of its hour the one ahead stays", x.loss(3, 0, 0, 12, 1), -2 * 4);
    Sheet.due("nothing of it stays behind", x.at(11, 0, 1, 2), 2);
    Sheet.due("count(2)", x.count(2), 4);

    Sheet.says(III, "how much more WORK a MILL would have had from HOUR a up to (not with) HOUR b.");
    MillStream y = wheels();
    Sheet.due("from its hour, up to the next", y.loss(2, 0, 10, 11, 1), 6);
    Sheet.due("up to its hour", y.loss(2, 0, 0, 10, 1), 0);
    Sheet.due("from behind its hour", y.loss(2, 0, 11, 14, 1), 18);
    Sheet.due("from an hour up to the same", y.loss(2, 0, 12, 12, 1), 0);
    Sheet.due("from the end", y.loss(2, 0, 240, 240, 1), 0);
    Sheet.due("less: below 0", y.loss(1, 0, 5, 6, 1), -4);
    Sheet.due("hour 0 has no head", y.loss(0, 0, 0, 1, 1), 0);
    Sheet.due("from hour 1", y.loss(0, 0, 1, 2, 1), -2);
  }

  private static void planHours() {
    Sheet.says(III, "A PLAN for a MILL: WHEELS for the next k HOURS from the CLOCK's on (that HOUR, too),");
    MillStream x = pond(900);
    x.clock(7);
    Sheet.due("one hour: plan(0, 1, 8)", x.plan(0, 1, 8), 0);
    Sheet.planned(x, 4);
    Sheet.due("two hours: plan(0, 2, 14)", x.plan(0, 2, 14), 0);
    Sheet.planned(x, 3, 4);
    Sheet.due("two hours cannot more: plan(0, 2, 17)", x.plan(0, 2, 17), -1);
    Sheet.due("six hours: plan(0, 6, 48)", x.plan(0, 6, 48), 0);
    Sheet.planned(x, 4, 4, 4, 4, 4, 4);
    // It is the clock's hour that has the rain, and the next one that has its head.
    MillStream y = mills(10, 10);
    y.rain(3, 0, 4);
    y.clock(2);
    Sheet.due("up to the hour of the rain", y.plan(0, 2, 1), -1);
    Sheet.due("up to the hour behind it", y.plan(0, 3, 4), 0);
    Sheet.planned(y, 0, 0, 2);
    Sheet.due("the clock's hour has no head yet: plan(0, 1, 1)", y.plan(0, 1, 1), -1);
    y.clock(4);
    Sheet.due("the clock's hour has it", y.plan(0, 1, 4), 0);
    Sheet.planned(y, 2);
  }

  private static void planOrders() {
    Sheet.says(III, "instead of its own by ORDERS; all else as it is ordered;");
    MillStream x = pond(100);
    x.order(0, true, 2);
    x.clock(1);
    x.order(0, false, 4);
    x.clock(2);
    x.order(0, false, 3);
    x.order(0, true, 1);
    // Hour 0 let out 6, hour 1 lets out 8 and 6: 80; the gate of 1 lets out 3 an hour from now on.
    Sheet.due("the level", x.at(2, 0, 1, 0), 80);
    Sheet.due("plan(0, 3, 0)", x.plan(0, 3, 0), 9);
    Sheet.planned(x, 0, 0, 0);
    Sheet.due("the order stays", x.at(2, 0, 1, 2), 3);
    Sheet.due("no order comes of it", x.count(2), 4);
    // Wheels of other mills go on as ordered: mill 1 keeps what it must only because its own uses it.
    MillStream y = mills(1000, 1000);
    y.rain(0, 0, 500);
    y.order(0, false, 2);
    y.order(1, false, 2);
    Sheet.take(y, "act a from 0;mill 1 must level<=4;mill 1 must wheel==2;end");
    y.clock(4);
    Sheet.due("plan(0, 4, 16)", y.plan(0, 4, 16), 0);
    Sheet.planned(y, 0, 0, 4, 4);
    // What is let out in an hour is in the other's pond two hours later, less the 4 that it uses.
    Sheet.due("plan(0, 4, 28)", y.plan(0, 4, 28), 0);
    Sheet.planned(y, 2, 4, 4, 4);
    Sheet.due("plan(0, 4, 29)", y.plan(0, 4, 29), -1);
    Sheet.due("the other's wheel is not its own: plan(1, 1, 0)", y.plan(1, 1, 0), 0);
    Sheet.planned(y, 2);
    // Orders of a later hour cannot be; one of the clock's hour counts for the others.
    y.order(1, false, 1);
    Sheet.due("the other's order of the clock's hour", y.plan(0, 1, 0), -1);
  }

  private static void planMusts() {
    Sheet.says(III, "by which no MILL BREAKS a must in these HOURS,");
    MillStream x = pond(500);
    x.mill(1000, 0, 4, 9);
    x.clock(3);
    Sheet.take(x, "act a from 0;mill 0 must wheel!=4;mill 1 must in<6 if hour==5;any must 1==2 if hour==2;any must 1==2 if hour==7;end");
    Sheet.due("its own: plan(0, 1, 7)", x.plan(0, 1, 7), -1);
    Sheet.due("its own: plan(0, 1, 5)", x.plan(0, 1, 5), 0);
    Sheet.planned(x, 3);
    // What mill 1 has in hour 5 is what mill 0 let out in hour 4.
    Sheet.due("another's: plan(0, 2, 12)", x.plan(0, 2, 12), 0);
    Sheet.planned(x, 3, 3);
    Sheet.due("another's, in the last hour: plan(0, 3, 17)", x.plan(0, 3, 17), -1);
    Sheet.due("another's, in the last hour: plan(0, 3, 16)", x.plan(0, 3, 16), 0);
    Sheet.planned(x, 3, 2, 3);
    Sheet.due("hour 2 is ahead of it, hour 7 behind it", x.plan(0, 4, 0), 0);
    Sheet.due("with hour 7", x.plan(0, 5, 0), -1);
    Sheet.due("mill 1's own, which cannot help it", x.plan(1, 5, 0), -1);
    Sheet.due("mill 1's own", x.plan(1, 4, 0), 0);
  }

  private static void planWork() {
    Sheet.says(III, "and this one's WORK in them is at least so much;");
    MillStream x = pond(500);
    x.clock(1);
    for (int work = 0; work <= 8; work++) {
      Sheet.due("plan(0, 1, " + work + ")", x.plan(0, 1, work), 0);
      Sheet.planned(x, (work + 1) / 2);
    }
    Sheet.due("plan(0, 1, 9)", x.plan(0, 1, 9), -1);
    Sheet.due("plan(0, 3, 24)", x.plan(0, 3, 24), 0);
    Sheet.due("plan(0, 3, 25)", x.plan(0, 3, 25), -1);
    x.factor(0, -1);
    Sheet.due("work below 0: plan(0, 2, 0)", x.plan(0, 2, 0), 0);
    Sheet.planned(x, 0, 0);
    Sheet.due("work below 0: plan(0, 2, 1)", x.plan(0, 2, 1), -1);
    // A must that wheels turn: with work below 0 there is none.
    Sheet.take(x, "act a from 0;mill 0 must wheel!=0;end");
    Sheet.due("work below 0, and a wheel that must turn", x.plan(0, 1, 0), -1);
    x.factor(0, 0);
    Sheet.due("work of 0, and a wheel that must turn", x.plan(0, 1, 0), 0);
    Sheet.planned(x, 1);
    // Work below 0 in one hour may be made good in another.
    MillStream y = pond(26);
    y.clock(1);
    y.factors(3);
    y.factor(2, -1);
    y.factor(1, 3);
    Sheet.due("plan(0, 2, 16)", y.plan(0, 2, 16), 0);
    Sheet.planned(y, 4, 4);
    Sheet.due("plan(0, 2, 17)", y.plan(0, 2, 17), -1);
    Sheet.due("plan(0, 2, 1)", y.plan(0, 2, 1), 0);
    Sheet.planned(y, 4, 2);
    // The greatest of twenty factors, and of none.
    MillStream z = pond(500);
    z.clock(1);
    z.factors(20);
    z.factor(19, 7);
    Sheet.due("plan(0, 3, 168) by the last of twenty", z.plan(0, 3, 168), 0);
    Sheet.planned(z, 4, 4, 4);
    Sheet.due("plan(0, 3, 169) by the last of twenty", z.plan(0, 3, 169), -1);
    z.factors(-1);
    Sheet.due("plan(0, 3, 23), MISSING", z.plan(0, 3, 23), 0);
    Sheet.planned(z, 4, 4, 4);
    Sheet.due("plan(0, 3, 25), MISSING", z.plan(0, 3, 25), -1);
  }

  private static void planWaste() {
    Sheet.says(III, "of these that by which the least goes through its GATE and SPILLS together;");
    // A full pond of 20 with a spring of 6: what the wheel leaves spills.
    MillStream x = mills(20, 1000);
    x.spring(6);
    x.clock(10);
    Sheet.due("the level", x.at(10, 0, 0, 0), 20);
    Sheet.due("plan(0, 2, 0)", x.plan(0, 2, 0), 0);
    Sheet.planned(x, 3, 3);
    Sheet.take(x, "act a from 0;mill 0 must wheel<=2;end");
    Sheet.due("plan(0, 2, 0), wheels of 2 at most", x.plan(0, 2, 0), 2 + 2);
    Sheet.planned(x, 2, 2);
    x.order(0, true, 1);
    // 26, less 4, less 3: 19; then 25, less 2, less 3: 20, and nothing spills.
    Sheet.due("plan(0, 2, 0), and a gate of 1", x.plan(0, 2, 0), 6);
    Sheet.planned(x, 2, 1);
    x.order(1, true, 9);
    Sheet.due("what goes through another's gate does not count", x.plan(0, 2, 0), 6);
    // The pond below is full and spills all that comes: that is not this one's.
    MillStream w = mills(20, 1);
    w.spring(6);
    w.clock(10);
    Sheet.due("what another spills", w.at(10, 1, 0, 8), 6);
    Sheet.due("what another spills does not count", w.plan(0, 2, 0), 0);
    Sheet.planned(w, 3, 3);
    // The gate lets out what the wheel leaves: a plan that empties the pond by the wheel is the best.
    MillStream y = pond(16);
    y.clock(1);
    y.order(0, true, 9);
    Sheet.due("plan(0, 1, 0)", y.plan(0, 1, 0), 8);
    Sheet.planned(y, 4);
    Sheet.due("plan(0, 2, 0)", y.plan(0, 2, 0), 8);
    Sheet.planned(y, 4, 0);
    // More spilled against less through the gate: the law opens it as the wheel turns.
    MillStream z = mills(20, 1000);
    z.spring(10);
    z.clock(10);
    Sheet.take(z, "act a from 0;mill 0 opens wheel*3;mill 0 must wheel<2;end");
    // Without the wheel 10 spill; with a wheel of 1 it is 2, the gate's 9, and nothing spills.
    Sheet.due("plan(0, 1, 0)", z.plan(0, 1, 0), 9);
    Sheet.planned(z, 1);
    z.spring(8);
    Sheet.due("8 spilled against 9 through the gate", z.plan(0, 1, 0), 8);
    Sheet.planned(z, 0);
  }

  private static void planFirst() {
    Sheet.says(III, "of equal ones the first by the first HOUR's WHEEL, then the second's, and so on.");
    MillStream x = pond(500);
    x.clock(1);
    Sheet.due("plan(0, 4, 0)", x.plan(0, 4, 0), 0);
    Sheet.planned(x, 0, 0, 0, 0);
    Sheet.due("plan(0, 4, 2)", x.plan(0, 4, 2), 0);
    Sheet.planned(x, 0, 0, 0, 1);
    Sheet.due("plan(0, 4, 10)", x.plan(0, 4, 10), 0);
    Sheet.planned(x, 0, 0, 1, 4);
    Sheet.due("plan(0, 4, 18)", x.plan(0, 4, 18), 0);
    Sheet.planned(x, 0, 1, 4, 4);
    Sheet.due("plan(0, 6, 41)", x.plan(0, 6, 41), 0);
    Sheet.planned(x, 1, 4, 4, 4, 4, 4);
    // The least waste goes ahead of the first wheels.
    MillStream y = mills(20);
    y.spring(4);
    y.clock(10);
    Sheet.due("plan(0, 3, 0)", y.plan(0, 3, 0), 0);
    Sheet.planned(y, 2, 2, 2);
    y.clock(11);
    Sheet.take(y, "act a from 0;any must wheel!=2;end");
    Sheet.due("plan(0, 3, 0) without wheels of 2", y.plan(0, 3, 0), 0);
    Sheet.planned(y, 3, 1, 3);
  }

  // ---- the promises

  private static void newObject() {
    String promise = "Promise 1: A new object";
    Sheet.says(promise, "No MILLS, no LAW; the CLOCK's HOUR is 0.");
    MillStream x = new MillStream();
    int[] counts = {0, 0, 0, 0, 0, 0, 0, 1, 0};
    for (int what = 0; what < counts.length; what++) {
      Sheet.due("count(" + what + ")", x.count(what), counts[what]);
    }
    Sheet.due("place()", x.place(), -1);
    Sheet.due("planned(0)", x.planned(0), -1);
    Sheet.due("at(0, 0, 0, 0)", x.at(0, 0, 0, 0), Sheet.NO_SUCH);
    Sheet.due("order(0, false, 0)", x.order(0, false, 0), -1);
    Sheet.due("grist(0, 1)", x.grist(0, 1), -1);
    Sheet.due("rain(0, 0, 0)", x.rain(0, 0, 0), -1);
    Sheet.due("plan(0, 1, 0)", x.plan(0, 1, 0), -2);
    Sheet.due("first(0, 240, 0)", x.first(0, 240, 0), -1);
    Sheet.due("broken(0, 0, 0)", x.broken(0, 0, 0), -1);
    Sheet.due("sea(240, 0)", x.sea(240, 0), 0);
    Sheet.due("NONE", MillStream.NONE, -1);
    // Nothing of one object is another's.
    x.mill(10, 0, 1, 1);
    x.clock(5);
    x.order(0, false, 1);
    x.factors(7);
    Sheet.take(x, "act a from 0;end");
    blanks(x);
    MillStream y = new MillStream();
    for (int what = 0; what < counts.length; what++) {
      Sheet.due("count(" + what + ") of another", y.count(what), counts[what]);
    }
  }

  private static void feed() {
    String promise = "Promise 2: feed";
    Sheet.says(promise, "Twenty bytes, the highest of a first, come behind the tape: how many it has.");
    Sheet.due("the first feed", blanks(new MillStream()), 20);
    for (int i = 0; i < 20; i++) {
      int[] w = {BLANKS, BLANKS, BLANKS, BLANKS, BLANKS};
      w[i / 4] ^= (0x20 ^ 0xff) << (24 - 8 * (i % 4));
      MillStream x = new MillStream();
      Sheet.due("feed", blanks(x), 20);
      Sheet.due("feed of a byte " + i, x.feed(w[0], w[1], w[2], w[3], w[4]), 40);
      Sheet.due("feed", blanks(x), 60);
      Sheet.due("read()", x.read(), 1);
      Sheet.due("the place of byte " + i, x.place(), 20 + i);
    }
    MillStream y = new MillStream();
    // "act a from 0;end" and blanks, the bytes in their order.
    Sheet.due("feed", y.feed(0x61637420, 0x61206672, 0x6f6d2030, 0x3b656e64, BLANKS), 20);
    Sheet.due("read()", y.read(), 0);
    Sheet.due("count(4)", y.count(4), 1);
    Sheet.due("the first feed behind a read()", blanks(y), 20);

    Sheet.says(promise, "NONE, and nothing comes, if it would have more than 2,000.");
    MillStream x = new MillStream();
    for (int i = 1; i <= 100; i++) {
      Sheet.due("feed " + i, blanks(x), 20 * i);
    }
    Sheet.due("feed 101", x.feed(-1, -1, -1, -1, -1), -1);
    Sheet.due("count(8)", x.count(8), 2000);
    Sheet.due("back(1)", x.back(1), 1999);
    Sheet.due("feed to 2019", x.feed(-1, -1, -1, -1, -1), -1);
    Sheet.due("count(8)", x.count(8), 1999);
    Sheet.due("back(18)", x.back(18), 1981);
    Sheet.due("feed to 2001", x.feed(-1, -1, -1, -1, -1), -1);
    Sheet.due("count(8)", x.count(8), 1981);
    Sheet.due("back(1)", x.back(1), 1980);
    Sheet.due("feed to 2000", blanks(x), 2000);
    Sheet.due("read(): nothing but blanks came", x.read(), 0);
    Sheet.due("feed behind it", blanks(x), 20);
  }

  private static void back() {
    String promise = "Promise 3: back";
    Sheet.says(promise, "The last n bytes of the tape go: how many it has.");
    MillStream x = new MillStream();
    Sheet.due("back(0) of nothing", x.back(0), 0);
    blanks(x);
    Sheet.due("back(0)", x.back(0), 20);
    Sheet.due("back(1)", x.back(1), 19);
    Sheet.due("back(18)", x.back(18), 1);
    Sheet.due("back(1)", x.back(1), 0);
    blanks(x);
    Sheet.due("back(20)", x.back(20), 0);
    Sheet.put(x, "act a from 0;end###");
    Sheet.due("back(3)", x.back(3), 16);
    Sheet.due("read(): the last ones went", x.read(), 0);
    Sheet.due("count(4)", x.count(4), 1);
    // What comes then comes where they were.
    Sheet.put(x, "act b from 0;en###");
    x.back(3);
    Sheet.due("feed", x.feed(0x64202020, BLANKS, BLANKS, BLANKS, BLANKS), 35);
    Sheet.due("read()", x.read(), 0);

    Sheet.says(promise, "NONE, and nothing goes, if it has not so many, or n is below 0.");
    MillStream y = new MillStream();
    Sheet.due("back(1) of nothing", y.back(1), -1);
    Sheet.due("back(-1) of nothing", y.back(-1), -1);
    blanks(y);
    Sheet.due("back(21)", y.back(21), -1);
    Sheet.due("back(-1)", y.back(-1), -1);
    for (int far : Sheet.FAR) {
      Sheet.due("back(" + far + ")", y.back(far), -1);
    }
    Sheet.due("count(8)", y.count(8), 20);
    Sheet.due("read()", y.read(), 0);
    Sheet.due("back(1) behind a read()", y.back(1), -1);
  }

  private static void readAndPlace() {
    String promise = "Promise 4: read";
    Sheet.says(promise, "The tape, which is empty then, is read: 0, or the number of its FAULT.");
    MillStream x = new MillStream();
    Sheet.due("read() of nothing", x.read(), 0);
    String[] texts = {"act a from 0;end", "#", "act b from 0;any opens (((((((((1;end", "act a from 0;end", "act b from 1 until 1;end", "  "};
    int[] numbers = {0, 1, 2, 3, 5, 0};
    for (int i = 0; i < texts.length; i++) {
      Sheet.put(x, texts[i]);
      Sheet.due("count(8) of " + texts[i], x.count(8), texts[i].length());
      Sheet.due("read() of " + texts[i], x.read(), numbers[i]);
      Sheet.due("count(8) then", x.count(8), 0);
      Sheet.due("back(1) then", x.back(1), -1);
      Sheet.due("read() then", x.read(), 0);
      Sheet.due("count(4) then", x.count(4), 1);
    }

    promise = "Promise 5: place";
    Sheet.says(promise, "The byte of the latest read()'s FAULT; NONE without.");
    MillStream y = new MillStream();
    Sheet.due("place() ahead of any read()", y.place(), -1);
    Sheet.put(y, "   #");
    Sheet.due("place() ahead of its read()", y.place(), -1);
    Sheet.due("read()", y.read(), 1);
    Sheet.due("place()", y.place(), 3);
    Sheet.due("place() again", y.place(), 3);
    Sheet.put(y, "#");
    Sheet.due("place() ahead of the next read()", y.place(), 3);
    Sheet.due("read()", y.read(), 1);
    Sheet.due("place()", y.place(), 0);
    Sheet.due("read() of nothing", y.read(), 0);
    Sheet.due("place() without a fault", y.place(), -1);
    Sheet.fault(y, "act", 1, 3);
    Sheet.fault(y, "act a from 0;end", 0, -1);
    Sheet.fault(y, "act a from 0;end", 3, 4);
    Sheet.fault(y, "act b from 0;mill 7 opens 1;end", 5, 18);
    Sheet.fault(y, "act b from 0;any opens (((((((((1;end", 2, 31);
    y.mill(10, 0, 1, 1);
    Sheet.due("place() behind other calls", y.place(), 31);
  }

  private static void mill() {
    String promise = "Promise 6: mill";
    Sheet.says(promise, "A MILL more, below all others: its number.");
    MillStream x = new MillStream();
    Sheet.due("mill(10, 0, 1, 0)", x.mill(10, 0, 1, 0), 0);
    x.rain(0, 0, 25);
    Sheet.due("what goes to the sea", x.sea(2, 1), 15);
    Sheet.due("mill(5, 0, 1, 0)", x.mill(5, 0, 1, 0), 1);
    Sheet.due("what comes to it", x.at(1, 1, 1, 1), 15);
    Sheet.due("what goes to the sea then", x.sea(2, 1), 10);
    Sheet.due("mill(1000, 0, 1, 0)", x.mill(1000, 0, 1, 0), 2);
    Sheet.due("what goes to the sea then", x.sea(240, 1), 0);
    Sheet.due("its level", x.at(3, 2, 1, 0), 10);

    Sheet.says(promise, "NONE, and nothing happens: 7 are there, the CLOCK is not at 0, or what is told is not as I tells.");
    MillStream y = new MillStream();
    int[][] bad = {{0, 0, 1, 0}, {1001, 0, 1, 0}, {10, -1, 1, 0}, {10, 11, 1, 0}, {10, 0, 0, 0}, {10, 0, 5, 0}, {10, 0, 1, -1},
      {10, 0, 1, 10}, {-5, -6, 1, 0}};
    for (int[] b : bad) {
      Sheet.due("mill(" + b[0] + ", " + b[1] + ", " + b[2] + ", " + b[3] + ")", y.mill(b[0], b[1], b[2], b[3]), -1);
    }
    Sheet.due("count(0)", y.count(0), 0);
    Sheet.due("the clock is set to 0", y.clock(0), true);
    for (int m = 0; m < 7; m++) {
      Sheet.due("mill " + m, y.mill(10, 0, 1, 0), m);
    }
    Sheet.due("an eighth", y.mill(20, 0, 1, 0), -1);
    Sheet.due("count(0)", y.count(0), 7);
    MillStream z = mills(10);
    z.clock(1);
    z.rain(0, 0, 25);
    Sheet.due("the clock is at 1", z.mill(10, 0, 1, 0), -1);
    Sheet.due("count(0)", z.count(0), 1);
    Sheet.due("what goes to the sea", z.sea(1, 1), 15);
    z.clock(239);
    Sheet.due("the clock is at 239", z.mill(10, 0, 1, 0), -1);
  }

  private static void spring() {
    Sheet.says("Promise 7: spring", "The SPRING becomes v: true; false for others.");
    MillStream x = mills(1000);
    int is = 0;
    for (int v : new int[] {-1, 0, 1, 50, 100, 101, 99, -100, 256, -1, 101}) {
      boolean can = v >= 0 && v <= 100;
      Sheet.due("spring(" + v + ")", x.spring(v), can);
      is = can ? v : is;
      Sheet.due("the spring then", x.at(7, 0, 0, 1), is);
    }
    for (int far : Sheet.FAR) {
      Sheet.due("spring(" + far + ")", x.spring(far), false);
    }
    Sheet.due("the spring then", x.at(239, 0, 0, 1), 99);
    MillStream y = new MillStream();
    Sheet.due("without mills", y.spring(8), true);
    y.mill(10, 0, 1, 0);
    Sheet.due("the spring then", y.at(0, 0, 0, 1), 8);
  }

  private static void factors() {
    Sheet.says("Promise 8: factors", "FACTORS become a row of n (1 .. 20) 1s; n NONE: MISSING: true; false for others.");
    MillStream x = pond(1000);
    x.order(0, false, 1);
    x.factor(0, 50);
    int is = 1;
    for (int n : new int[] {0, 1, -2, 20, 21, -1, 0, -2, 21, 2, 19}) {
      boolean can = n == -1 || n >= 1 && n <= 20;
      Sheet.due("factors(" + n + ")", x.factors(n), can);
      is = can ? n : is;
      Sheet.due("count(7)", x.count(7), is);
    }
    for (int far : Sheet.FAR) {
      Sheet.due("factors(" + far + ")", x.factors(far), false);
    }
    Sheet.due("count(7)", x.count(7), 19);
    // All are 1 again, those that were told before, too.
    for (int i = 0; i < 19; i++) {
      Sheet.due("factor(" + i + ", 9)", x.factor(i, 9), true);
    }
    Sheet.due("the work", x.at(1, 0, 1, 6), 18);
    Sheet.due("factors(19)", x.factors(19), true);
    Sheet.due("the work", x.at(1, 0, 1, 6), 2);
    MillStream y = pond(7);
    y.order(0, false, 1);
    y.factor(0, 9);
    Sheet.due("factors(1)", y.factors(1), true);
    Sheet.due("the work of a head of 5", y.at(1, 0, 1, 6), 2);
    y.factor(0, 9);
    Sheet.due("a refused one changes nothing", y.factors(21), false);
    Sheet.due("the work of a head of 5", y.at(1, 0, 1, 6), 18);
    y.factors(-1);
    Sheet.due("MISSING", y.at(1, 0, 1, 6), 2);
    y.factors(3);
    Sheet.due("a row of 1s behind MISSING", y.at(1, 0, 1, 6), 2);
  }

  private static void factor() {
    Sheet.says("Promise 9: factor", "FACTOR i becomes v (-100 .. 100): true; false: there is none such, or another v.");
    MillStream x = pond(12);
    x.order(0, false, 1);
    x.factors(2);
    int is = 1;
    for (int v : new int[] {-101, -100, 0, 100, 101, 127, 128, -128, 228, 256, -1, 7}) {
      boolean can = v >= -100 && v <= 100;
      Sheet.due("factor(1, " + v + ")", x.factor(1, v), can);
      is = can ? v : is;
      Sheet.due("the work then", x.at(1, 0, 1, 6), 2 * is);
    }
    for (int far : Sheet.FAR) {
      boolean can = far >= -100 && far <= 100;
      Sheet.due("factor(0, " + far + ")", x.factor(0, far), can);
      Sheet.due("factor(" + far + ", 3)", x.factor(far, 3), false);
    }
    Sheet.due("factor(-1, 3)", x.factor(-1, 3), false);
    Sheet.due("factor(2, 3)", x.factor(2, 3), false);
    Sheet.due("the work then", x.at(1, 0, 1, 6), 14);
    Sheet.due("factor(0, 5)", x.factor(0, 5), true);
    Sheet.due("the work of a head of 8", x.at(2, 0, 1, 6), 10);
    Sheet.due("the work of a head of 10", x.at(1, 0, 1, 6), 14);
    x.factors(1);
    Sheet.due("factor(1, 3) of one", x.factor(1, 3), false);
    x.factors(20);
    Sheet.due("factor(19, 3) of twenty", x.factor(19, 3), true);
    Sheet.due("factor(20, 3) of twenty", x.factor(20, 3), false);
    x.factors(-1);
    Sheet.due("factor(0, 3) of none", x.factor(0, 3), false);
    Sheet.due("the work then", x.at(1, 0, 1, 6), 2);
  }

  private static void clock() {
    Sheet.says("Promise 10: clock", "The CLOCK's HOUR becomes h: true; false: below the CLOCK's, or above 239.");
    MillStream x = mills(10);
    int is = 0;
    for (int h : new int[] {-1, 0, 240, 1, 0, 1, 100, 99, 100, 240, 238, 239, 238, 239, 240, 241}) {
      boolean can = h >= is && h <= 239;
      Sheet.due("clock(" + h + ")", x.clock(h), can);
      is = can ? h : is;
      Sheet.due("count(6)", x.count(6), is);
    }
    for (int far : Sheet.FAR) {
      Sheet.due("clock(" + far + ")", x.clock(far), false);
    }
    Sheet.due("count(6)", x.count(6), 239);
    x.order(0, false, 2);
    Sheet.due("an order at it", x.at(239, 0, 0, 2), 2);
    Sheet.due("ahead of it", x.at(238, 0, 0, 2), 0);
  }

  private static void rain() {
    String promise = "Promise 11: rain";
    Sheet.says(promise, "A fact of RAIN: its number.");
    MillStream x = mills(10, 10);
    x.clock(100);
    Sheet.due("ahead of the clock: rain(0, 1, 5)", x.rain(0, 1, 5), 0);
    Sheet.due("behind it: rain(239, 0, 6)", x.rain(239, 0, 6), 1);
    Sheet.due("the same again: rain(239, 0, 6)", x.rain(239, 0, 6), 2);
    Sheet.due("count(1)", x.count(1), 3);

    Sheet.says(promise, "NONE, and nothing happens: 400 are there, no such HOUR (0 .. 239), MILL, v.");
    int[][] bad = {{-1, 0, 1}, {240, 0, 1}, {0, -1, 1}, {0, 2, 1}, {0, 0, -1}, {0, 0, 1001}};
    for (int[] b : bad) {
      Sheet.due("rain(" + b[0] + ", " + b[1] + ", " + b[2] + ")", x.rain(b[0], b[1], b[2]), -1);
    }
    for (int far : Sheet.FAR) {
      Sheet.due("rain(" + far + ", 0, 1)", x.rain(far, 0, 1), -1);
      Sheet.due("rain(0, " + far + ", 1)", x.rain(0, far, 1), -1);
      Sheet.due("rain(0, 0, " + far + ")", x.rain(0, 0, far), -1);
    }
    Sheet.due("count(1)", x.count(1), 3);
    Sheet.due("nothing fell", x.at(0, 0, 3, 1), 0);
    for (int i = 3; i < 400; i++) {
      Sheet.due("fact " + i, x.rain(239, 0, 1000), i);
    }
    Sheet.due("fact 400", x.rain(239, 0, 1), -1);
    Sheet.due("fact 400, for another hour", x.rain(0, 0, 1), -1);
    Sheet.due("count(1)", x.count(1), 400);
    Sheet.due("in hour 239", x.at(239, 0, 400, 1), 1000);
    Sheet.due("in hour 0", x.at(0, 0, 400, 1), 0);
  }

  private static void order() {
    String promise = "Promise 12: order";
    Sheet.says(promise, "An ORDER for a MILL's WHEEL (gate false) or GATE: its number.");
    MillStream x = new MillStream();
    x.mill(10, 0, 2, 5);
    x.mill(10, 0, 4, 0);
    Sheet.due("order(0, false, 2)", x.order(0, false, 2), 0);
    Sheet.due("order(0, true, 5)", x.order(0, true, 5), 1);
    Sheet.due("order(1, false, 4)", x.order(1, false, 4), 2);
    Sheet.due("order(1, true, 0)", x.order(1, true, 0), 3);
    int[][] set = {{2, 5}, {4, 0}};
    for (int m = 0; m < 2; m++) {
      Sheet.due("the wheel of mill " + m, x.at(0, m, 0, 2), set[m][0]);
      Sheet.due("the gate of mill " + m, x.at(0, m, 0, 3), set[m][1]);
    }

    Sheet.says(promise, "NONE, and nothing happens: 200 are there, no such MILL, setting.");
    int[][] bad = {{-1, 0, 0}, {2, 0, 0}, {2, 1, 0}, {0, 0, 3}, {0, 0, -1}, {0, 1, 6}, {0, 1, -1}, {1, 0, 5}, {1, 1, 1}};
    for (int[] b : bad) {
      Sheet.due("order(" + b[0] + ", " + (b[1] == 1) + ", " + b[2] + ")", x.order(b[0], b[1] == 1, b[2]), -1);
    }
    for (int far : Sheet.FAR) {
      Sheet.due("order(" + far + ", false, 0)", x.order(far, false, 0), -1);
      Sheet.due("order(" + far + ", true, 0)", x.order(far, true, 0), -1);
      Sheet.due("order(0, false, " + far + ")", x.order(0, false, far), -1);
      Sheet.due("order(0, true, " + far + ")", x.order(0, true, far), -1);
    }
    Sheet.due("count(2)", x.count(2), 4);
    Sheet.due("the wheel of mill 0", x.at(0, 0, 0, 2), 2);
    Sheet.due("the gate of mill 0", x.at(0, 0, 0, 3), 5);
    for (int i = 4; i < 200; i++) {
      Sheet.due("order " + i, x.order(0, false, 1), i);
    }
    x.clock(5);
    Sheet.due("order 200", x.order(0, false, 2), -1);
    Sheet.due("order 200, of the gate", x.order(1, true, 0), -1);
    Sheet.due("count(2)", x.count(2), 200);
    Sheet.due("the wheel of mill 0", x.at(5, 0, 0, 2), 1);
  }

  private static void grist() {
    String promise = "Promise 13: grist";
    Sheet.says(promise, "A GRIST of so much work (1 .. 10000) is brought to a MILL: its number.");
    MillStream x = mills(10, 10);
    Sheet.due("grist(0, 1)", x.grist(0, 1), 0);
    x.clock(239);
    Sheet.due("grist(1, 10000)", x.grist(1, 10000), 1);
    int[][] want = {{0, 1, 0}, {1, 10000, 239}};
    for (int g = 0; g < 2; g++) {
      for (int what = 0; what < 3; what++) {
        Sheet.due("told(" + g + ", 0, " + what + ")", x.told(g, 0, what), want[g][what]);
      }
    }

    Sheet.says(promise, "NONE, and nothing happens: 60 are there, no such MILL, work.");
    int[][] bad = {{-1, 1}, {2, 1}, {0, 0}, {0, -1}, {0, 10001}};
    for (int[] b : bad) {
      Sheet.due("grist(" + b[0] + ", " + b[1] + ")", x.grist(b[0], b[1]), -1);
    }
    for (int far : Sheet.FAR) {
      Sheet.due("grist(" + far + ", 1)", x.grist(far, 1), -1);
      Sheet.due("grist(0, " + far + ")", x.grist(0, far), -1);
    }
    Sheet.due("count(3)", x.count(3), 2);
    for (int i = 2; i < 60; i++) {
      Sheet.due("grist " + i, x.grist(0, 9), i);
    }
    Sheet.due("grist 60", x.grist(0, 9), -1);
    Sheet.due("grist 60, of another mill", x.grist(1, 9), -1);
    Sheet.due("count(3)", x.count(3), 60);
    Sheet.due("told(59, 0, 1)", x.told(59, 0, 1), 9);
    Sheet.due("told(60, 0, 1)", x.told(60, 0, 1), -1);
  }

  private static void at() {
    String promise = "Promise 14: at";
    Sheet.says(promise, "Of MILL m in HOUR h, as KNOWN by n: what 0 LEVEL at its beginning, 1 IN, 2 WHEEL, 3 GATE, 4 HEAD, 5 U, 6 WORK, 7 through the GATE, 8 SPILL, 9 OUT.");
    MillStream x = new MillStream();
    x.mill(60, 0, 4, 9);
    x.mill(100, 7, 1, 9);
    x.spring(50);
    x.factor(0, 3);
    x.order(0, false, 2);
    x.order(0, true, 1);
    x.rain(0, 1, 30);
    x.rain(0, 1, 20);
    Sheet.row(x, 0, 0, 0, 50, 2, 1, 0, 4, 0, 3, 0, 7);
    Sheet.row(x, 1, 0, 43, 50, 2, 1, 30, 4, 12, 3, 26, 33);
    Sheet.row(x, 1, 1, 20, 7, 0, 0, 20, 0, 0, 0, 0, 0);
    Sheet.row(x, 2, 0, 60, 50, 2, 1, 40, 4, 12, 3, 43, 50);
    Sheet.row(x, 2, 1, 27, 33, 0, 0, 27, 0, 0, 0, 0, 0);
    int[] heads = {43, 20, 30};
    for (int n = 0; n <= 2; n++) {
      Sheet.due("HEAD, as known by " + n, x.at(1, 0, n, 4), heads[n]);
    }

    Sheet.says(promise, "-1000000: no such MILL, HOUR (0 .. 239), n (0 .. facts), what.");
    int[][] bad = {{-1, 0, 0, 0}, {240, 0, 0, 0}, {0, -1, 0, 0}, {0, 2, 0, 0}, {0, 0, -1, 0}, {0, 0, 3, 0}, {0, 0, 0, -1}, {0, 0, 0, 10}};
    for (int[] b : bad) {
      Sheet.due("at(" + b[0] + ", " + b[1] + ", " + b[2] + ", " + b[3] + ")", x.at(b[0], b[1], b[2], b[3]), Sheet.NO_SUCH);
    }
    for (int far : Sheet.FAR) {
      Sheet.due("at(" + far + ", 0, 0, 0)", x.at(far, 0, 0, 0), Sheet.NO_SUCH);
      Sheet.due("at(0, " + far + ", 0, 0)", x.at(0, far, 0, 0), Sheet.NO_SUCH);
      Sheet.due("at(0, 0, " + far + ", 0)", x.at(0, 0, far, 0), Sheet.NO_SUCH);
      Sheet.due("at(0, 0, 0, " + far + ")", x.at(0, 0, 0, far), Sheet.NO_SUCH);
    }
    Sheet.due("at(239, 1, 2, 9)", x.at(239, 1, 2, 9), 50);
    Sheet.due("at(0, 0, 0, 0)", x.at(0, 0, 0, 0), 0);
    Sheet.due("without facts, as known by 1", mills(10).at(0, 0, 1, 0), Sheet.NO_SUCH);
    Sheet.due("without facts, as known by 0", mills(10).at(0, 0, 0, 0), 0);
  }

  private static void sea() {
    String promise = "Promise 15: sea";
    Sheet.says(promise, "All that came to the SEA in the HOURS ahead of h (0 .. 240), as KNOWN by n.");
    MillStream x = mills(10, 10);
    x.rain(0, 1, 14);
    x.rain(3, 1, 6);
    x.rain(239, 1, 100);
    int[][] want = {{0, 0}, {1, 4}, {3, 4}, {4, 10}, {239, 10}, {240, 110}};
    for (int[] w : want) {
      Sheet.due("sea(" + w[0] + ", 3)", x.sea(w[0], 3), w[1]);
    }
    Sheet.due("sea(240, 0)", x.sea(240, 0), 0);
    Sheet.due("sea(240, 1)", x.sea(240, 1), 4);
    Sheet.due("sea(240, 2)", x.sea(240, 2), 10);
    Sheet.due("without mills: sea(240, 0)", new MillStream().sea(240, 0), 0);

    Sheet.says(promise, "NONE for others.");
    Sheet.due("sea(-1, 0)", x.sea(-1, 0), -1);
    Sheet.due("sea(241, 0)", x.sea(241, 0), -1);
    Sheet.due("sea(0, -1)", x.sea(0, -1), -1);
    Sheet.due("sea(0, 4)", x.sea(0, 4), -1);
    for (int far : Sheet.FAR) {
      Sheet.due("sea(" + far + ", 0)", x.sea(far, 0), -1);
      Sheet.due("sea(0, " + far + ")", x.sea(0, far), -1);
    }
    Sheet.due("without mills: sea(241, 0)", new MillStream().sea(241, 0), -1);
    Sheet.due("without mills: sea(0, 1)", new MillStream().sea(0, 1), -1);
  }

  private static void broken() {
    String promise = "Promise 16: broken";
    Sheet.says(promise, "The i-th time that a must is BROKEN in HOUR h, as KNOWN by n, by MILLS, then RULES: 100 times the MILL, and the RULE.");
    MillStream x = mills(10, 20, 30);
    Sheet.take(x, "act a from 0;any must level==0;mill 2 must 1==2;any opens 0;mill 0 must 1==3;any must hour!=1;end");
    x.rain(0, 1, 5);
    int[][] want = {{3, 201}, {3, 4, 100, 104, 201, 204}, {3, 100, 201}};
    for (int h = 0; h < want.length; h++) {
      for (int i = 0; i < want[h].length; i++) {
        Sheet.due("broken(" + h + ", 1, " + i + ")", x.broken(h, 1, i), want[h][i]);
      }
      Sheet.due("broken(" + h + ", 1, " + want[h].length + ")", x.broken(h, 1, want[h].length), -1);
    }
    Sheet.due("as known by 0: broken(2, 0, 1)", x.broken(2, 0, 1), 201);
    Sheet.due("as known by 0: broken(2, 0, 2)", x.broken(2, 0, 2), -1);
    Sheet.due("the last hour: broken(239, 1, 1)", x.broken(239, 1, 1), 100);
    MillStream full = mills(1, 1, 1, 1, 1, 1, 1);
    Sheet.take(full, "act a from 0;" + "any must 1==2;".repeat(30) + "end");
    Sheet.due("the last of all", full.broken(0, 0, 209), 629);
    Sheet.due("not so many", full.broken(0, 0, 210), -1);

    Sheet.says(promise, "NONE: not so many, or no such HOUR, n.");
    int[][] bad = {{-1, 0, 0}, {240, 0, 0}, {0, -1, 0}, {0, 2, 0}, {0, 0, -1}, {0, 0, 2}};
    for (int[] b : bad) {
      Sheet.due("broken(" + b[0] + ", " + b[1] + ", " + b[2] + ")", x.broken(b[0], b[1], b[2]), -1);
    }
    for (int far : Sheet.FAR) {
      Sheet.due("broken(" + far + ", 0, 0)", x.broken(far, 0, 0), -1);
      Sheet.due("broken(0, " + far + ", 0)", x.broken(0, far, 0), -1);
      Sheet.due("broken(0, 0, " + far + ")", x.broken(0, 0, far), -1);
    }
    Sheet.due("no law", mills(10).broken(0, 0, 0), -1);
    MillStream y = new MillStream();
    Sheet.take(y, "act a from 0;any must 1==2;end");
    Sheet.due("no mills", y.broken(0, 0, 0), -1);
  }

  private static void first() {
    String promise = "Promise 17: first";
    Sheet.says(promise, "The first HOUR from a on, below b, in which something is BROKEN, as KNOWN by n;");
    MillStream x = mills(10, 10);
    Sheet.take(x, "act a from 0;mill 1 must level==0 if 0<hour;mill 0 must hour!=7;mill 0 must day!=9 or hour!=23;end");
    x.rain(3, 1, 1);
    // As known by 1: in hours 4 to 23, 25 to 47, .. ; as known by 0: in hours 7, 31, .. and 239.
    int[][] want = {{0, 240, 4}, {0, 5, 4}, {0, 4, -1}, {4, 240, 4}, {4, 5, 4}, {5, 240, 5}, {24, 240, 25}, {24, 25, -1}, {24, 26, 25},
      {239, 240, 239}, {240, 240, -1}, {5, 5, -1}, {0, 0, -1}, {9, 8, -1}, {240, 0, -1}};
    for (int[] w : want) {
      Sheet.due("first(" + w[0] + ", " + w[1] + ", 1)", x.first(w[0], w[1], 1), w[2]);
    }
    Sheet.due("first(0, 240, 0)", x.first(0, 240, 0), 7);
    Sheet.due("first(8, 240, 0)", x.first(8, 240, 0), 31);
    Sheet.due("first(224, 240, 0)", x.first(224, 240, 0), 239);
    Sheet.due("first(224, 239, 0)", x.first(224, 239, 0), -1);
    MillStream y = mills(10);
    Sheet.take(y, "act a from 0;any must 1==2;end");
    Sheet.due("hour 0 itself", y.first(0, 1, 0), 0);

    Sheet.says(promise, "NONE: none, or a, b not 0 .. 240, no such n.");
    Sheet.due("there is none", mills(10).first(0, 240, 0), -1);
    int[][] bad = {{-1, 240, 0}, {241, 240, 0}, {0, -1, 0}, {0, 241, 0}, {0, 240, -1}, {0, 240, 1}};
    for (int[] b : bad) {
      Sheet.due("first(" + b[0] + ", " + b[1] + ", " + b[2] + ")", y.first(b[0], b[1], b[2]), -1);
    }
    for (int far : Sheet.FAR) {
      Sheet.due("first(" + far + ", 240, 0)", y.first(far, 240, 0), -1);
      Sheet.due("first(0, " + far + ", 0)", y.first(0, far, 0), -1);
      Sheet.due("first(0, 240, " + far + ")", y.first(0, 240, far), -1);
    }
  }

  private static void loss() {
    String promise = "Promise 18: loss";
    Sheet.says(promise, "LOSS of MILL m by ORDER k from HOUR a up to b (0 .. 240), as KNOWN by n.");
    MillStream x = new MillStream();
    x.mill(1000, 0, 4, 9);
    x.mill(1000, 0, 4, 9);
    x.spring(2);
    x.rain(0, 0, 500);
    x.order(0, false, 1);
    x.order(1, false, 1);
    x.clock(3);
    x.order(0, false, 0);
    // Mill 1 has 2 an hour in hours 1 to 3, and uses them at once: it has no head, and no work.
    Sheet.due("of mill 0, by its own: loss(2, 0, 0, 240, 1)", x.loss(2, 0, 0, 240, 1), 2 * 237);
    Sheet.due("of mill 0, in the last hour", x.loss(2, 0, 239, 240, 1), 2);
    Sheet.due("of mill 0, by mill 1's", x.loss(1, 0, 0, 240, 1), 0);
    Sheet.due("of mill 0, as known by none", x.loss(0, 0, 0, 3, 0), 0);
    Sheet.due("of mill 0, as known by 1", x.loss(0, 0, 0, 3, 1), -4);
    Sheet.due("of mill 1, by mill 0's", x.loss(2, 1, 0, 240, 1), 0);
    x.rain(0, 1, 4);
    Sheet.due("of mill 1, by mill 0's order 2, as known by 2", x.loss(2, 1, 0, 240, 2), 2 * (240 - 5));
    Sheet.due("of mill 1, by mill 0's order 0, as known by 2", x.loss(0, 1, 0, 240, 2), -6);
    Sheet.due("of mill 1, by mill 0's order 2, up to hour 5", x.loss(2, 1, 0, 5, 2), 0);
    Sheet.due("of mill 1, by mill 0's order 2, up to hour 6", x.loss(2, 1, 0, 6, 2), 2);
    Sheet.due("of mill 1, by mill 0's order 2, from hour 5 up to 6", x.loss(2, 1, 5, 6, 2), 2);
    Sheet.due("from 0 up to 0", x.loss(2, 1, 0, 0, 2), 0);
    Sheet.due("from 240 up to 240", x.loss(2, 1, 240, 240, 2), 0);

    Sheet.says(promise, "-1000000: no such ones.");
    int[][] bad = {{-1, 0, 0, 9, 0}, {3, 0, 0, 9, 0}, {0, -1, 0, 9, 0}, {0, 2, 0, 9, 0}, {0, 0, -1, 9, 0}, {0, 0, 241, 9, 0},
      {0, 0, 0, -1, 0}, {0, 0, 0, 241, 0}, {0, 0, 0, 9, -1}, {0, 0, 0, 9, 3}};
    for (int[] b : bad) {
      String call = "loss(" + b[0] + ", " + b[1] + ", " + b[2] + ", " + b[3] + ", " + b[4] + ")";
      Sheet.due(call, x.loss(b[0], b[1], b[2], b[3], b[4]), Sheet.NO_SUCH);
    }
    for (int far : Sheet.FAR) {
      Sheet.due("loss(" + far + ", 0, 0, 9, 0)", x.loss(far, 0, 0, 9, 0), Sheet.NO_SUCH);
      Sheet.due("loss(0, " + far + ", 0, 9, 0)", x.loss(0, far, 0, 9, 0), Sheet.NO_SUCH);
      Sheet.due("loss(0, 0, " + far + ", 9, 0)", x.loss(0, 0, far, 9, 0), Sheet.NO_SUCH);
      Sheet.due("loss(0, 0, 0, " + far + ", 0)", x.loss(0, 0, 0, far, 0), Sheet.NO_SUCH);
      Sheet.due("loss(0, 0, 0, 9, " + far + ")", x.loss(0, 0, 0, 9, far), Sheet.NO_SUCH);
    }
    Sheet.due("no orders", mills(10).loss(0, 0, 0, 9, 0), Sheet.NO_SUCH);
  }

  /** Mill 0 feeds mill 1, which stands at 6 and uses 4 an hour; orders 0 and 1; from hour 3 on it does not, by order 2. */
  private static MillStream fed() {
    MillStream x = mills(1000, 100);
    x.rain(0, 0, 500);
    x.rain(0, 1, 10);
    x.order(0, false, 2);
    x.order(1, false, 2);
    x.clock(3);
    x.order(0, false, 0);
    return x;
  }

  private static void culpritEdges() {
    // The spring's 1 an hour goes on to mill 1 in hour 1 alone, whose wheel turns from hour 2 on: losses of -1, 1, none.
    MillStream x = mills(1000, 1000);
    x.spring(1);
    x.order(0, false, 1);
    x.clock(1);
    x.order(0, false, 0);
    x.clock(2);
    x.order(1, false, 1);
    Sheet.due("a loss of -1", x.loss(0, 1, 0, 3, 0), -1);
    Sheet.due("a loss of 1", x.loss(1, 1, 0, 3, 0), 1);
    Sheet.due("by a loss of 1", x.culprit(1, 0, 3, 0), 1);
    Sheet.due("with one of -1 alone", x.culprit(1, 0, 2, 0), -1);
    // Order 0, with factors below 0: what comes to mill 1 makes it work less than nothing.
    MillStream y = mills(1000, 1000);
    y.factor(0, -1);
    y.rain(0, 0, 100);
    y.rain(0, 1, 3);
    y.order(0, false, 1);
    y.order(1, false, 1);
    Sheet.due("a loss by order 0", y.loss(0, 1, 0, 3, 2), 3);
    Sheet.due("by order 0, the first of all of its mill", y.culprit(1, 0, 3, 2), 0);
    // Orders of the same hour of other mills, or of the same mill's gate, put nothing aside.
    MillStream z = mills(1000, 100);
    z.rain(0, 0, 500);
    z.rain(0, 1, 10);
    z.order(0, false, 2);
    z.order(1, false, 2);
    z.order(1, true, 0);
    z.order(0, true, 0);
    z.clock(3);
    z.order(1, false, 2);
    z.order(0, false, 0);
    z.order(1, false, 2);
    z.order(0, true, 0);
    z.order(1, true, 0);
    Sheet.due("one among others of its hour", z.culprit(1, 0, 10, 2), 5);
    // All orders are there: the last one is it.
    MillStream w = mills(1000, 100);
    w.rain(0, 0, 500);
    w.rain(0, 1, 10);
    w.order(0, false, 2);
    w.order(1, false, 2);
    for (int i = 2; i < 199; i++) {
      w.order(1, true, 0);
    }
    w.clock(3);
    Sheet.due("order 199", w.order(0, false, 0), 199);
    Sheet.due("by the last of 200", w.culprit(1, 0, 10, 2), 199);
  }

  private static void culprit() {
    String promise = "Promise 19: culprit";
    Sheet.says(promise, "The ORDER (of those of other MILLS) by which MILL m has the greatest LOSS above 0 from HOUR a up to b, as KNOWN by n; of equal ones the first;");
    MillStream x = fed();
    Sheet.due("loss(2, 1, 0, 10, 2)", x.loss(2, 1, 0, 10, 2), 18);
    Sheet.due("culprit(1, 0, 10, 2)", x.culprit(1, 0, 10, 2), 2);
    Sheet.due("up to where there is no loss yet", x.culprit(1, 0, 5, 2), -1);
    Sheet.due("up to where there is some", x.culprit(1, 0, 6, 2), 2);
    Sheet.due("from there on", x.culprit(1, 5, 6, 2), 2);
    Sheet.due("late", x.culprit(1, 120, 121, 2), 2);
    Sheet.due("in the last hour the water is gone", x.culprit(1, 239, 240, 2), -1);
    Sheet.due("as known by 1 it has no head", x.culprit(1, 0, 10, 1), -1);
    Sheet.due("its own orders do not count", x.culprit(0, 0, 10, 2), -1);
    Sheet.due("but they have a loss", x.loss(2, 0, 0, 10, 2), 28);
    x.order(1, false, 0);
    Sheet.due("its own has the greater loss now", x.loss(3, 1, 0, 10, 2), 10);
    Sheet.due("the other's has none now", x.culprit(1, 0, 10, 2), -1);
    // Two that are equal, each an hour without water: the first; and one that is greater.
    MillStream y = fed();
    y.clock(4);
    y.order(0, false, 2);
    y.clock(6);
    y.order(0, false, 0);
    y.clock(7);
    y.order(0, false, 2);
    Sheet.due("they are equal", y.loss(2, 1, 0, 20, 2), y.loss(4, 1, 0, 20, 2));
    Sheet.due("of equal ones", y.culprit(1, 0, 20, 2), 2);
    // Half the water in hour 3, none from hour 4 on: losses of 2 and of 4.
    MillStream v = mills(1000, 100);
    v.rain(0, 0, 500);
    v.rain(0, 1, 10);
    v.order(0, false, 2);
    v.order(1, false, 2);
    v.clock(3);
    v.order(0, false, 1);
    v.clock(4);
    v.order(0, false, 0);
    Sheet.due("the lesser one", v.loss(2, 1, 0, 9, 2), 2);
    Sheet.due("the greater one", v.loss(3, 1, 0, 9, 2), 4);
    Sheet.due("a greater one behind a lesser one", v.culprit(1, 0, 9, 2), 3);
    v.clock(5);
    v.order(0, false, 2);
    Sheet.due("the lesser one, with water again from hour 5 on", v.loss(2, 1, 0, 7, 2), 4);
    Sheet.due("the greater one, with water again from hour 5 on", v.loss(3, 1, 0, 7, 2), 4);
    Sheet.due("they are equal now", v.culprit(1, 0, 7, 2), 2);
    culpritEdges();
    // A mill below is at fault, too, and its gate.
    MillStream z = mills(100, 100, 100);
    z.rain(0, 0, 100);
    z.rain(0, 1, 90);
    z.order(0, false, 2);
    z.order(1, true, 9);
    z.clock(1);
    z.order(2, true, 3);
    z.order(1, true, 0);
    Sheet.due("a gate below that was shut", z.culprit(0, 0, 100, 2), 3);
    z.order(1, true, 0);
    Sheet.due("and shut twice: without either the other stays", z.culprit(0, 0, 100, 2), -1);

    Sheet.says(promise, "NONE: there is none, or no such ones.");
    MillStream w = fed();
    int[][] bad = {{-1, 0, 10, 2}, {2, 0, 10, 2}, {1, -1, 10, 2}, {1, 241, 10, 2}, {1, 0, -1, 2}, {1, 0, 241, 2}, {1, 0, 10, -1},
      {1, 0, 10, 3}, {1, 10, 10, 2}, {1, 11, 10, 2}, {1, 0, 0, 2}, {1, 240, 240, 2}};
    for (int[] b : bad) {
      Sheet.due("culprit(" + b[0] + ", " + b[1] + ", " + b[2] + ", " + b[3] + ")", w.culprit(b[0], b[1], b[2], b[3]), -1);
    }
    for (int far : Sheet.FAR) {
      Sheet.due("culprit(" + far + ", 0, 10, 2)", w.culprit(far, 0, 10, 2), -1);
      Sheet.due("culprit(1, " + far + ", 10, 2)", w.culprit(1, far, 10, 2), -1);
      Sheet.due("culprit(1, 0, " + far + ", 2)", w.culprit(1, 0, far, 2), -1);
      Sheet.due("culprit(1, 0, 10, " + far + ")", w.culprit(1, 0, 10, far), -1);
    }
    Sheet.due("culprit(1, 0, 240, 2)", w.culprit(1, 0, 240, 2), 2);
    Sheet.due("no orders", mills(10, 10).culprit(1, 0, 240, 0), -1);
  }

  private static void plan() {
    String promise = "Promise 20: plan";
    Sheet.says(promise, "A PLAN for MILL m, k HOURS (1 .. 6; not beyond HOUR 239), at least so much work (0 .. 10000), all facts KNOWN: what goes through GATE and SPILLS.");
    MillStream x = pond(500);
    x.mill(1000, 0, 1, 9);
    Sheet.due("plan(0, 1, 0)", x.plan(0, 1, 0), 0);
    Sheet.due("plan(0, 6, 0)", x.plan(0, 6, 0), 0);
    Sheet.due("plan(1, 6, 0)", x.plan(1, 6, 0), 0);
    x.clock(1);
    x.factor(0, 100);
    Sheet.due("plan(0, 6, 4800)", x.plan(0, 6, 4800), 0);
    Sheet.planned(x, 4, 4, 4, 4, 4, 4);
    x.clock(234);
    Sheet.due("hours 234 to 239: plan(0, 6, 0)", x.plan(0, 6, 0), 0);
    x.clock(235);
    Sheet.due("hours 235 to 240: plan(0, 6, 0)", x.plan(0, 6, 0), -2);
    Sheet.due("hours 235 to 239: plan(0, 5, 0)", x.plan(0, 5, 0), 0);
    x.clock(239);
    Sheet.due("hour 239: plan(0, 1, 0)", x.plan(0, 1, 0), 0);
    Sheet.due("hours 239 and 240: plan(0, 2, 0)", x.plan(0, 2, 0), -2);
    // All facts are known, the latest, too.
    MillStream y = mills(10);
    y.rain(0, 0, 50);
    Sheet.due("with the first fact", y.plan(0, 1, 0), 50 - 8 - 10);
    y.rain(0, 0, 19);
    Sheet.due("with the second", y.plan(0, 1, 0), 1);
    y.rain(1, 0, 9);
    Sheet.due("with the third", y.plan(0, 2, 0), 1 + 1);
    y.order(0, true, 3);
    Sheet.due("gate and spill", y.plan(0, 1, 0), 9);

    Sheet.says(promise, "NONE: there is none;");
    MillStream z = pond(500);
    Sheet.due("too much work: plan(0, 6, 41)", z.plan(0, 6, 41), -1);
    Sheet.due("plan(0, 6, 40)", z.plan(0, 6, 40), 0);
    Sheet.due("too much work: plan(0, 6, 10000)", z.plan(0, 6, 10000), -1);
    Sheet.due("too much work in hour 0: plan(0, 1, 1)", z.plan(0, 1, 1), -1);
    Sheet.take(z, "act a from 0;any must hour!=3;end");
    Sheet.due("a must that is broken by all: plan(0, 4, 0)", z.plan(0, 4, 0), -1);
    Sheet.due("plan(0, 3, 0)", z.plan(0, 3, 0), 0);

    Sheet.says(promise, "-2: no such ones.");
    MillStream w = pond(500);
    w.mill(10, 0, 1, 1);
    int[][] bad = {{-1, 1, 0}, {2, 1, 0}, {0, 0, 0}, {0, -1, 0}, {0, 7, 0}, {0, 1, -1}, {0, 1, 10001}};
    for (int[] b : bad) {
      Sheet.due("plan(" + b[0] + ", " + b[1] + ", " + b[2] + ")", w.plan(b[0], b[1], b[2]), -2);
    }
    for (int far : Sheet.FAR) {
      Sheet.due("plan(" + far + ", 1, 0)", w.plan(far, 1, 0), -2);
      Sheet.due("plan(0, " + far + ", 0)", w.plan(0, far, 0), -2);
      Sheet.due("plan(0, 1, " + far + ")", w.plan(0, 1, far), -2);
    }
    Sheet.due("planned(0)", w.planned(0), -1);
    Sheet.due("without mills", new MillStream().plan(0, 1, 0), -2);
  }

  private static void planned() {
    Sheet.says("Promise 21: planned", "The WHEEL in the i-th HOUR of the latest PLAN that there was; NONE: not so many.");
    MillStream x = pond(500);
    x.mill(1000, 0, 4, 9);
    Sheet.due("ahead of any", x.planned(0), -1);
    Sheet.due("no such one", x.plan(0, 7, 0), -2);
    Sheet.due("there is none", x.plan(0, 1, 9), -1);
    Sheet.due("still ahead of any", x.planned(0), -1);
    x.clock(1);
    Sheet.due("plan(0, 3, 11)", x.plan(0, 3, 11), 0);
    Sheet.planned(x, 0, 2, 4);
    Sheet.due("planned(-1)", x.planned(-1), -1);
    for (int far : Sheet.FAR) {
      Sheet.due("planned(" + far + ")", x.planned(far), -1);
    }
    Sheet.due("no such one", x.plan(0, 3, 10001), -2);
    Sheet.planned(x, 0, 2, 4);
    Sheet.due("there is none", x.plan(0, 6, 9999), -1);
    Sheet.planned(x, 0, 2, 4);
    x.clock(100);
    x.order(0, false, 1);
    x.spring(1);
    Sheet.planned(x, 0, 2, 4);
    Sheet.due("a shorter one", x.plan(0, 1, 5), 0);
    Sheet.planned(x, 3);
    Sheet.due("a longer one, of another mill", x.plan(1, 6, 0), 0);
    Sheet.planned(x, 0, 0, 0, 0, 0, 0);
  }

  private static void told() {
    String promise = "Promise 22: told";
    Sheet.says(promise, "Of a GRIST, as KNOWN by n: what 0: the MILL, 1: its work, 2: the HOUR at which it was brought, 3: the HOUR in which it is FINISHED (NONE: in none of the 240), 4: how much of it is ground by the beginning of the CLOCK's HOUR.");
    MillStream x = mills(1000, 1000);
    x.rain(0, 0, 100);
    x.rain(0, 1, 500);
    x.order(1, false, 4);
    x.clock(2);
    x.grist(1, 12);
    x.grist(0, 7);
    x.grist(1, 5000);
    int[][] want = {{1, 12, 2, 3, 0}, {0, 7, 2, -1, 0}, {1, 5000, 2, -1, 0}};
    for (int g = 0; g < 3; g++) {
      for (int what = 0; what < 5; what++) {
        Sheet.due("told(" + g + ", 2, " + what + ")", x.told(g, 2, what), want[g][what]);
      }
    }
    Sheet.due("as known by 1", x.told(0, 1, 3), -1);
    x.clock(3);
    Sheet.due("ground by hour 3", x.told(0, 2, 4), 8);
    Sheet.due("ground by hour 3, as known by 1", x.told(0, 1, 4), 0);
    x.clock(4);
    Sheet.due("ground by hour 4", x.told(0, 2, 4), 12);
    Sheet.due("the third, by hour 4", x.told(2, 2, 4), 4);
    x.clock(239);
    Sheet.due("ground by hour 239", x.told(0, 2, 4), 12);
    // The hour in which it is finished may be the last one: with a spring of 8 the wheel always has 8.
    MillStream y = pond(100);
    y.spring(8);
    y.order(0, false, 4);
    y.grist(0, 8 * 239);
    y.grist(0, 1);
    Sheet.due("in hour 239", y.told(0, 1, 3), 239);
    Sheet.due("in none of them", y.told(1, 1, 3), -1);
    y.clock(239);
    Sheet.due("by the beginning of hour 239", y.told(0, 1, 4), 8 * 238);

    Sheet.says(promise, "NONE for others.");
    int[][] bad = {{-1, 0, 0}, {2, 0, 0}, {0, -1, 0}, {0, 2, 0}, {0, 0, -1}, {0, 0, 5}};
    for (int[] b : bad) {
      Sheet.due("told(" + b[0] + ", " + b[1] + ", " + b[2] + ")", y.told(b[0], b[1], b[2]), -1);
    }
    for (int what = 0; what < 5; what++) {
      Sheet.due("told(2, 1, " + what + ")", y.told(2, 1, what), -1);
      Sheet.due("told(0, 2, " + what + ")", y.told(0, 2, what), -1);
    }
    for (int far : Sheet.FAR) {
      Sheet.due("told(" + far + ", 1, 0)", y.told(far, 1, 0), -1);
      Sheet.due("told(0, " + far + ", 0)", y.told(0, far, 0), -1);
      Sheet.due("told(0, 1, " + far + ")", y.told(0, 1, far), -1);
    }
    Sheet.due("told(0, 1, 0)", y.told(0, 1, 0), 0);
  }

  private static void tolls() {
    String promise = "Promise 23: tolls";
    Sheet.says(promise, "TOLLS of a MILL for GRISTS that are FINISHED ahead of HOUR h (0 .. 240), as KNOWN by n.");
    MillStream x = mills(1000);
    x.mill(1000, 1000, 4, 9);
    x.spring(8);
    x.rain(0, 0, 100);
    x.order(0, false, 4);
    x.grist(0, 33);
    x.grist(1, 160);
    x.grist(0, 8 * 239 - 33);
    x.grist(0, 100);
    // The first is finished in hour 5, the third in hour 239, the others in none.
    int[][] want = {{0, 0}, {5, 0}, {6, 2}, {239, 2}, {240, 2 + 117}};
    for (int[] w : want) {
      Sheet.due("tolls(0, " + w[0] + ", 1)", x.tolls(0, w[0], 1), w[1]);
    }
    Sheet.due("tolls(1, 240, 1)", x.tolls(1, 240, 1), 0);
    // As known by 0 all that the spring gives is used at once: there is no head.
    Sheet.due("tolls(0, 240, 0)", x.tolls(0, 240, 0), 0);
    x.order(1, false, 4);
    x.rain(0, 1, 50);
    Sheet.due("tolls(1, 240, 2)", x.tolls(1, 240, 2), 10);
    Sheet.due("tolls(1, 240, 1)", x.tolls(1, 240, 1), 0);

    Sheet.says(promise, "NONE for others.");
    int[][] bad = {{-1, 0, 0}, {2, 0, 0}, {0, -1, 0}, {0, 241, 0}, {0, 0, -1}, {0, 0, 3}};
    for (int[] b : bad) {
      Sheet.due("tolls(" + b[0] + ", " + b[1] + ", " + b[2] + ")", x.tolls(b[0], b[1], b[2]), -1);
    }
    for (int far : Sheet.FAR) {
      Sheet.due("tolls(" + far + ", 0, 0)", x.tolls(far, 0, 0), -1);
      Sheet.due("tolls(0, " + far + ", 0)", x.tolls(0, far, 0), -1);
      Sheet.due("tolls(0, 0, " + far + ")", x.tolls(0, 0, far), -1);
    }
    Sheet.due("without grists", mills(10).tolls(0, 240, 0), 0);
    Sheet.due("without mills", new MillStream().tolls(0, 240, 0), -1);
  }

  private static void count() {
    String promise = "Promise 24: count";
    Sheet.says(promise, "0 MILLS, 1 facts, 2 ORDERS, 3 GRISTS, 4 ACTS, 5 RULES, 6 the CLOCK's HOUR, 7 FACTORS (NONE: MISSING), 8 bytes on the tape.");
    MillStream x = mills(10, 10);
    for (int i = 0; i < 3; i++) {
      x.rain(0, 0, 1);
    }
    for (int i = 0; i < 4; i++) {
      x.order(0, false, 1);
    }
    for (int i = 0; i < 5; i++) {
      x.grist(0, 1);
    }
    StringBuilder acts = new StringBuilder();
    for (int i = 0; i < 6; i++) {
      acts.append("act ").append((char) ('a' + i)).append(" from ").append(i).append(";").append(i == 5 ? "any opens 1;".repeat(7) : "").append("end ");
    }
    Sheet.take(x, acts.toString());
    x.clock(8);
    x.factors(9);
    Sheet.put(x, "0123456789");
    int[] want = {2, 3, 4, 5, 6, 7, 8, 9, 10};
    for (int what = 0; what < want.length; what++) {
      Sheet.due("count(" + what + ")", x.count(what), want[what]);
    }
    x.factors(-1);
    Sheet.due("count(7), MISSING", x.count(7), -1);

    Sheet.says(promise, "NONE for others.");
    Sheet.due("count(-1)", x.count(-1), -1);
    Sheet.due("count(9)", x.count(9), -1);
    for (int far : Sheet.FAR) {
      Sheet.due("count(" + far + ")", x.count(far), -1);
    }
  }

  private static void allCalls() {
    Sheet.says("What it is", "An object is used for at most 512 calls after it has been made;");
    MillStream x = mills(1000, 1000);
    int calls = 2;
    for (int i = 0; i < 300; i++, calls++) {
      Sheet.due("fact " + i, x.rain(i % 240, i % 2, 1), i);
    }
    for (int i = 0; i < 200; i++, calls++) {
      Sheet.due("order " + i, x.order(i % 2, i % 4 < 2, i % 5), i);
    }
    Sheet.due("call 503: count(2)", x.count(2), 200);
    Sheet.due("call 504: read()", x.read(), 0);
    Sheet.due("call 505: clock(3)", x.clock(3), true);
    Sheet.due("call 506: grist(0, 1)", x.grist(0, 1), 0);
    Sheet.due("call 507: factors(2)", x.factors(2), true);
    Sheet.due("call 508: spring(1)", x.spring(1), true);
    Sheet.due("call 509: rain(239, 1, 7)", x.rain(239, 1, 7), 300);
    Sheet.due("call 510: at(239, 1, 301, 2)", x.at(239, 1, 301, 2), 4);
    Sheet.due("call 511: at(239, 0, 301, 2)", x.at(239, 0, 301, 2), 3);
    Sheet.due("call 512: plan(0, 1, 0)", x.plan(0, 1, 0) >= 0, true);
    Sheet.due("calls ahead of them", calls, 502);
  }

  public static void main(String[] args) throws IOException {
    Sheet.begin();
    lossByOrder();
    planHours();
    planOrders();
    planMusts();
    planWork();
    planWaste();
    planFirst();
    newObject();
    feed();
    back();
    readAndPlace();
    mill();
    spring();
    factors();
    factor();
    clock();
    rain();
    order();
    grist();
    at();
    sea();
    broken();
    first();
    loss();
    culprit();
    plan();
    planned();
    told();
    tolls();
    count();
    allCalls();
    Sheet.end("III", "Promise 1: A new object", "Promise 2: feed", "Promise 3: back", "Promise 4: read", "Promise 5: place",
        "Promise 6: mill", "Promise 7: spring", "Promise 8: factors", "Promise 9: factor", "Promise 10: clock", "Promise 11: rain",
        "Promise 12: order", "Promise 13: grist", "Promise 14: at", "Promise 15: sea", "Promise 16: broken", "Promise 17: first",
        "Promise 18: loss", "Promise 19: culprit", "Promise 20: plan", "Promise 21: planned", "Promise 22: told", "Promise 23: tolls",
        "Promise 24: count");
  }
}
