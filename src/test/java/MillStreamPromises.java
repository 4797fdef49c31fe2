import java.nio.charset.StandardCharsets;

/** For each promise: ordinary inputs, the edges that the document names, and wrong inputs. */
public final class MillStreamPromises {
  private static final int NO_SUCH = -1000000;
  private static int wrong = 0;
  private static String promise = "";

  private static void due(String call, long got, long want) {
    if (got != want) {
      wrong++;
      System.out.println(promise + ": " + call + " answered " + got + ", due is " + want);
    }
  }

  private static void due(String call, boolean got, boolean want) {
    due(call, got ? 1 : 0, want ? 1 : 0);
  }

  /** Puts the bytes of a text on the tape: whole feeds, and what is too much of the last one goes back. */
  private static void put(MillStream x, byte[] text) {
    int feeds = (text.length + 19) / 20;
    int[] words = new int[5 * feeds];
    for (int i = 0; i < 4 * words.length; i++) {
      words[i / 4] = words[i / 4] << 8 | (i < text.length ? text[i] & 255 : 'x');
    }
    for (int i = 0; i < words.length; i += 5) {
      x.feed(words[i], words[i + 1], words[i + 2], words[i + 3], words[i + 4]);
    }
    x.back(20 * feeds - text.length);
  }

  private static int take(MillStream x, String text) {
    put(x, text.getBytes(StandardCharsets.ISO_8859_1));
    return x.read();
  }

  /** What a text's fault and its place are on an object that has taken others before. */
  private static void fault(MillStream x, String text, int number, int place) {
    String shown = text.length() > 70 ? text.substring(0, 70) + ".." : text;
    due("read() of " + shown, take(x, text), number);
    due("place() of " + shown, x.place(), place);
    due("count(8) of " + shown, x.count(8), 0);
  }

  private static void fault(String text, int number, int place) {
    MillStream x = new MillStream();
    fault(x, text, number, place);
    if (number != 0) {
      due("count(4) of " + text, x.count(4), 0);
      due("count(5) of " + text, x.count(5), 0);
    }
  }

  private static MillStream two() {
    MillStream x = new MillStream();
    x.mill(100, 20, 2, 3);
    x.mill(100, 30, 2, 3);
    x.spring(10);
    return x;
  }

  /** One mill with a full pond and a wheel of 4 from hour 0 on, by rain of 200 in hour 0. */
  private static MillStream full(String law) {
    MillStream x = new MillStream();
    x.mill(200, 50, 4, 9);
    x.rain(0, 0, 200);
    due("read() of " + law, take(x, law), 0);
    return x;
  }

  private static void newObject() {
    MillStream x = new MillStream();
    for (int what = 0; what <= 8; what++) {
      due("count(" + what + ")", x.count(what), what == 7 ? 1 : 0);
    }
    due("place()", x.place(), -1);
    due("planned(0)", x.planned(0), -1);
    due("sea(240, 0)", x.sea(240, 0), 0);
    due("broken(0, 0, 0)", x.broken(0, 0, 0), -1);
    due("first(0, 240, 0)", x.first(0, 240, 0), -1);
    due("NONE", MillStream.NONE, -1);
    MillStream y = new MillStream();
    x.mill(1, 0, 1, 0);
    x.feed(0, 0, 0, 0, 0);
    due("count(0) of another object", y.count(0), 0);
    due("count(8) of another object", y.count(8), 0);
  }

  private static void feed() {
    MillStream x = new MillStream();
    for (int i = 1; i <= 100; i++) {
      due("feed " + i, x.feed(0x20202020, 0x20202020, 0x20202020, 0x20202020, 0x20202020), 20 * i);
    }
    due("feed 101", x.feed(0, 0, 0, 0, 0), -1);
    due("count(8)", x.count(8), 2000);
    due("back(19)", x.back(19), 1981);
    due("feed to 2001", x.feed(0, 0, 0, 0, 0), -1);
    due("back(1)", x.back(1), 1980);
    due("feed to 2000", x.feed(0, 0, 0, 0, 0), 2000);
    due("back(20)", x.back(20), 1980);
    due("read() of blanks", x.read(), 0);
    // The highest byte of a first: the fault's place is that of the first byte that is no blank.
    for (int i = 0; i < 20; i++) {
      int[] w = {0x20202020, 0x20202020, 0x20202020, 0x20202020, 0x20202020};
      w[i / 4] ^= (0x20 ^ 0x80) << (24 - 8 * (i % 4));
      due("feed byte " + i, x.feed(w[0], w[1], w[2], w[3], w[4]), 20);
      due("read() byte " + i, x.read(), 1);
      due("place() byte " + i, x.place(), i);
    }
  }

  private static void back() {
    MillStream x = new MillStream();
    due("back(0)", x.back(0), 0);
    due("back(1)", x.back(1), -1);
    x.feed(0x20202020, 0x20202020, 0x20202020, 0x20202020, 0x20202020);
    due("back(-1)", x.back(-1), -1);
    due("back(MIN)", x.back(Integer.MIN_VALUE), -1);
    due("back(21)", x.back(21), -1);
    due("back(MAX)", x.back(Integer.MAX_VALUE), -1);
    due("count(8)", x.count(8), 20);
    due("back(0)", x.back(0), 20);
    due("back(7)", x.back(7), 13);
    due("back(13)", x.back(13), 0);
    put(x, "act a from 0; end#".getBytes(StandardCharsets.ISO_8859_1));
    due("back(1)", x.back(1), 17);
    due("read()", x.read(), 0);
    due("count(4)", x.count(4), 1);
  }

  private static final String BODY = "act a from 0; any must ";

  private static void readSyntax() {
    fault("", 0, -1);
    fault("  \t\n\r ", 0, -1);
    fault("act a from 0; end", 0, -1);
    fault("act a from 0;end act b from 3 until 4;mill 6 opens 2;end", 0, -1);
    fault("act a from0until1;mill0must1==1;any opens 9999 if in<=out;end", 0, -1);
    fault("act abcdefgh from 9999; end", 0, -1);
    fault("act abcdefghi from 9999; end", 1, 4);
    fault("act a from 10000; end", 1, 11);
    fault("act a from 0000; end", 0, -1);
    fault("act a from 0 end", 1, 13);
    fault("act a from 0; ", 1, 14);
    fault("act", 1, 3);
    fault("act ", 1, 4);
    fault("actafrom 0; end", 1, 0);
    fault("act level from 0; end", 1, 4);
    fault("act a from 0; end x", 1, 18);
    fault("end", 1, 0);
    fault("act a from 0; end;", 1, 17);
    fault("act a from 0 until; end", 1, 18);
    fault("act a from -1; end", 1, 11);
    fault("act A from 0; end", 1, 4);
    fault("act a from 0: end", 1, 12);
    fault("act a from 0. end", 1, 12);
    fault("act a from 0;\0end", 1, 13);
    fault("act a from 0;\u00ffend", 1, 13);
    fault("act a from 0;\u000bend", 1, 13);
    String[] words = {"act", "from", "until", "end", "must", "if", "opens", "mill", "any", "or", "and", "level", "mark",
      "cap", "below", "above", "in", "wheel", "gate", "hour", "day", "work", "out"};
    for (String word : words) {
      fault("act " + word + " from 0; end", 1, 4);
      fault("act " + word + "x from 0; end", 0, -1);
    }
    for (int i = 11; i < words.length; i++) {
      fault(BODY + words[i] + " < 1; end", 0, -1);
    }
    for (int i = 0; i < 11; i++) {
      fault(BODY + words[i] + " < 1; end", 1, 23);
    }
  }

  private static void readRules() {
    fault(BODY + "1 < 2; end", 0, -1);
    fault(BODY + "1 < 2 and 3 != 4 or 5 == 6; end", 0, -1);
    fault(BODY + "1; end", 1, 24);
    fault(BODY + "1 < 2 < 3; end", 1, 29);
    fault(BODY + "1 = 2; end", 1, 25);
    fault(BODY + "1 ! 2; end", 1, 25);
    fault(BODY + "1 === 2; end", 1, 27);
    fault(BODY + "1 <== 2; end", 1, 27);
    fault(BODY + "1 < = 2; end", 1, 27);
    fault(BODY + "1 > 2; end", 1, 25);
    fault(BODY + "-1 < 2; end", 0, -1);
    fault(BODY + "--1 < 2; end", 1, 24);
    fault(BODY + "1 + -1 < 2; end", 1, 27);
    fault(BODY + "1 + (-1) < 2; end", 0, -1);
    fault(BODY + "+1 < 2; end", 1, 23);
    fault(BODY + "(1 < 2); end", 1, 26);
    fault(BODY + "() < 2; end", 1, 24);
    fault(BODY + "(1 < 2; end", 1, 26);
    fault(BODY + "1) < 2; end", 1, 24);
    fault(BODY + "1 * * 1 < 2; end", 1, 27);
    fault(BODY + "1 1 < 2; end", 1, 25);
    fault(BODY + "x < 2; end", 1, 23);
    fault(BODY + "1 < 2 and; end", 1, 32);
    fault(BODY + "1 < 2 if; end", 1, 31);
    fault(BODY + "1 < 2 if 1 < 2 if 1 < 2; end", 1, 38);
    fault(BODY + "1 < 2 end", 1, 29);
    fault("act a from 0; mill must 1 < 2; end", 1, 19);
    fault("act a from 0; any 1 must 1 < 2; end", 1, 18);
    fault("act a from 0; any opens 1 < 2; end", 1, 26);
    fault("act a from 0; any opens 1 if 2; end", 1, 30);
    fault("act a from 0; any opens ; end", 1, 24);
    fault("act a from 0; any opens 1 or 1; end", 1, 26);
    fault("act a from 0; must 1 < 2; end", 1, 14);
    // What follows a fault could itself be gone on with.
    fault("act a from 0 until end", 1, 19);
    fault("act a from end", 1, 11);
    fault("act a from 0 until any opens 1; end", 1, 19);
    fault("act a from 0 any opens 1; end", 1, 13);
    fault("act a from 0; mill end", 1, 19);
    fault("act a from 0; mill any opens 1; end", 1, 19);
    fault("act a from 0; any end", 1, 18);
    fault("act a from 0; any opens end", 1, 24);
    fault("act a from 0; any opens 1 end", 1, 26);
    fault("act a from 0; any opens 1 if end", 1, 29);
    fault("act a from 0; any must 1 == end", 1, 28);
    fault("act a from 0; any opens 1 any opens 1; end", 1, 26);
    fault("act a from 0; any opens - ; end", 1, 26);
    fault("act a from 0; any opens 1 + ; end", 1, 28);
    fault("act a from 0; any opens 1 * ; end", 1, 28);
    fault("act a from 0; any opens ( ; end", 1, 26);
    fault("act a from 0; act b from 0; end", 1, 14);
  }

  private static String rules(int n) {
    return "any opens 1;".repeat(n);
  }

  private static void readRoom() {
    // 8 tokens up to the first 1, 590 of sums, and ';' 'end': 600.
    String head = "act a from 0;any opens 1";
    fault(head + "+1".repeat(295) + ";end ", 0, -1);
    fault(head + "+1".repeat(295) + "*1;end", 2, 24 + 590 + 2);
    fault(head + "+1".repeat(296) + ";end", 2, 24 + 592);
    fault(head + "+1".repeat(296) + " or", 1, 24 + 592 + 1);
    fault(head + "+1".repeat(296) + "#", 1, 24 + 592);
    fault(head + "+1".repeat(296) + " 12345", 1, 24 + 592 + 1);
    fault(head + "+1".repeat(296) + " ", 1, 24 + 592 + 1);
    fault(head + "+1".repeat(295) + ";end end", 1, 24 + 590 + 5);
    fault(head + "+1".repeat(295) + ";end act", 2, 24 + 590 + 5);
    fault("act a from 0;mill 0 must 1" + "+1".repeat(295) + "==-1;end", 2, 26 + 590 + 2);
    fault("act a from 0;" + rules(30) + "end", 0, -1);
    fault("act a from 0;" + rules(31) + "end", 2, 13 + 12 * 30);
    fault("act a from 0;" + rules(31) + "#", 2, 13 + 12 * 30);
    fault("act a from 0;" + rules(29) + "end act b from 0;" + rules(2) + "end", 2, 13 + 12 * 29 + 17 + 12);
    fault(BODY + "((((((((1)))))))) < 1;end", 0, -1);
    fault(BODY + "(((((((((1))))))))) < 1;end", 2, 23 + 8);
    fault(BODY + "((((((((1))))))))*((((((((1)))))))) < ((((((((1))))))));end", 0, -1);
    fault(BODY + "1 < 1 + 2 * (((((((((;end", 2, 23 + 12 + 8);
    MillStream x = new MillStream();
    StringBuilder ten = new StringBuilder();
    for (char c = 'a'; c < 'k'; c++) {
      ten.append("act ").append(c).append(" from 0;end ");
    }
    fault(x, ten + "act z from 0;end", 2, 170);
    due("count(4)", x.count(4), 0);
    fault(x, ten + "act", 2, 170);
    fault(x, ten + "", 0, -1);
    due("count(4)", x.count(4), 10);
    fault(x, " act z from 0;end", 2, 1);
    fault(x, "", 0, -1);
    MillStream y = new MillStream();
    fault(y, "act a from 0;" + rules(28) + "end", 0, -1);
    fault(y, "act b from 0;" + rules(3) + "end", 2, 13 + 24);
    fault(y, "act b from 0;" + rules(2) + "end", 0, -1);
    fault(y, "act c from 0;end", 0, -1);
    fault(y, "act d from 0;any", 2, 13);
    due("count(4)", y.count(4), 3);
    due("count(5)", y.count(5), 30);
  }

  private static void readOthers() {
    MillStream x = new MillStream();
    fault(x, "act a from 0; end", 0, -1);
    fault(x, "act a from 0; end", 3, 4);
    fault(x, "act b from 0; end act b from 0; end", 3, 22);
    due("count(4)", x.count(4), 1);
    fault(x, "act aa from 0; end act b from 0; end", 0, -1);
    fault(x, "act a from 0; end #", 1, 18);
    fault(x, "act a from 0; any opens (((((((((1; end", 2, 32);
    fault(x, "act c from 0; mill 7 opens 1; end act a from 0; end", 5, 19);
    fault(x, "act a from 0; mill 7 opens 1; end", 3, 4);
    due("count(4)", x.count(4), 3);
    fault("act a from 0; mill 6 opens 1; end", 0, -1);
    fault("act a from 0; mill 7 opens 1; end", 5, 19);
    fault("act a from 0; mill 9999 opens 1; end", 5, 19);
    fault("act a from 0; mill 7 opens 1; #", 1, 30);
    fault("act a from 3 until 3; end", 5, 19);
    fault("act a from 3 until 2; end", 5, 19);
    fault("act a from 3 until 4; end", 0, -1);
    fault("act a from 3 until 3; mill 7 opens 1; end", 5, 19);
    // Without a fault the latest place is gone.
    MillStream y = new MillStream();
    fault(y, "#", 1, 0);
    fault(y, "", 0, -1);
  }

  private static void place() {
    MillStream x = new MillStream();
    due("place()", x.place(), -1);
    put(x, "  #".getBytes(StandardCharsets.ISO_8859_1));
    due("place() before it is read", x.place(), -1);
    due("read()", x.read(), 1);
    due("place()", x.place(), 2);
    due("place() again", x.place(), 2);
    x.feed(0, 0, 0, 0, 0);
    due("place() after feed", x.place(), 2);
    due("read()", x.read(), 1);
    due("place()", x.place(), 0);
    due("read() of nothing", x.read(), 0);
    due("place()", x.place(), -1);
  }

  private static void mill() {
    MillStream x = new MillStream();
    int[][] bad = {{0, 0, 1, 0}, {1001, 0, 1, 0}, {10, -1, 1, 0}, {10, 11, 1, 0}, {10, 1, 0, 0}, {10, 1, 5, 0},
      {10, 1, 1, -1}, {10, 1, 1, 10}};
    for (int[] b : bad) {
      due("mill(" + b[0] + ", " + b[1] + ", " + b[2] + ", " + b[3] + ")", x.mill(b[0], b[1], b[2], b[3]), -1);
    }
    due("count(0)", x.count(0), 0);
    due("mill(1, 0, 1, 0)", x.mill(1, 0, 1, 0), 0);
    due("mill(1000, 1000, 4, 9)", x.mill(1000, 1000, 4, 9), 1);
    for (int i = 2; i < 7; i++) {
      due("mill " + i, x.mill(10, 10, 4, 9), i);
    }
    due("mill 7", x.mill(10, 10, 4, 9), -1);
    due("count(0)", x.count(0), 7);
    MillStream y = new MillStream();
    y.mill(10, 10, 4, 9);
    y.clock(0);
    due("mill at clock 0", y.mill(10, 10, 4, 9), 1);
    y.clock(1);
    due("mill at clock 1", y.mill(10, 10, 4, 9), -1);
    due("count(0)", y.count(0), 2);
    // A mill more below: what went to the sea goes to it.
    MillStream z = new MillStream();
    z.mill(10, 0, 4, 0);
    z.rain(0, 0, 30);
    due("sea(1, 1)", z.sea(1, 1), 20);
    z.mill(1000, 0, 4, 0);
    due("sea(1, 1)", z.sea(1, 1), 0);
    due("at(1, 1, 1, 1)", z.at(1, 1, 1, 1), 20);
  }

  private static void spring() {
    MillStream x = two();
    due("spring(-1)", x.spring(-1), false);
    due("spring(101)", x.spring(101), false);
    due("at(7, 0, 0, 1)", x.at(7, 0, 0, 1), 10);
    due("spring(100)", x.spring(100), true);
    due("at(0, 0, 0, 1)", x.at(0, 0, 0, 1), 100);
    due("at(239, 0, 0, 1)", x.at(239, 0, 0, 1), 100);
    due("at(0, 1, 0, 1)", x.at(0, 1, 0, 1), 0);
    x.clock(9);
    due("spring(0)", x.spring(0), true);
    due("at(0, 0, 0, 1)", x.at(0, 0, 0, 1), 0);
    due("spring without mills", new MillStream().spring(5), true);
  }

  private static void factors() {
    MillStream x = full("");
    x.order(0, false, 4);
    due("count(7)", x.count(7), 1);
    due("at(1, 0, 1, 0)", x.at(1, 0, 1, 0), 192);
    due("at(1, 0, 1, 6)", x.at(1, 0, 1, 6), 8);
    due("factor(0, 7)", x.factor(0, 7), true);
    due("at(1, 0, 1, 6)", x.at(1, 0, 1, 6), 56);
    due("factors(20)", x.factors(20), true);
    due("at(1, 0, 1, 6) with all 1", x.at(1, 0, 1, 6), 8);
    due("count(7)", x.count(7), 20);
    due("factors(21)", x.factors(21), false);
    due("factors(0)", x.factors(0), false);
    due("factors(-2)", x.factors(-2), false);
    due("count(7)", x.count(7), 20);
    due("factors(-1)", x.factors(-1), true);
    due("count(7)", x.count(7), -1);
    due("at(1, 0, 1, 6) missing", x.at(1, 0, 1, 6), 8);
    due("at(0, 0, 1, 6) missing, of a head of 0", x.at(0, 0, 1, 6), 0);
    due("factors(1)", x.factors(1), true);
    due("count(7)", x.count(7), 1);
  }

  private static void factor() {
    MillStream x = full("");
    x.order(0, false, 4);
    due("factor(1, 1)", x.factor(1, 1), false);
    due("factor(-1, 1)", x.factor(-1, 1), false);
    x.factors(20);
    due("factor(20, 1)", x.factor(20, 1), false);
    due("factor(19, 101)", x.factor(19, 101), false);
    due("factor(19, -101)", x.factor(19, -101), false);
    for (int i = 0; i < 20; i++) {
      due("factor(" + i + ", ..)", x.factor(i, i - 9), true);
    }
    // The levels are 192, 184, .. 0: the factor is that of a tenth, the first too.
    for (int h = 1; h <= 24; h++) {
      int head = 200 - 8 * h;
      due("at(" + h + ", 0, 1, 4)", x.at(h, 0, 1, 4), head);
      due("at(" + h + ", 0, 1, 6)", x.at(h, 0, 1, 6), 8 * (head / 10 - 9));
    }
    due("at(25, 0, 1, 6)", x.at(25, 0, 1, 6), 0);
    due("factor(19, 100)", x.factor(19, 100), true);
    due("at(1, 0, 1, 6)", x.at(1, 0, 1, 6), 800);
    due("factor(19, -100)", x.factor(19, -100), true);
    due("at(1, 0, 1, 6)", x.at(1, 0, 1, 6), -800);
    x.factors(3);
    x.factor(2, 5);
    due("the last one", x.at(1, 0, 1, 6), 40);
    x.factors(-1);
    due("factor(0, 1) missing", x.factor(0, 1), false);
    due("factor(-1, 1) missing", x.factor(-1, 1), false);
  }

  private static void clock() {
    MillStream x = new MillStream();
    due("clock(-1)", x.clock(-1), false);
    due("clock(0)", x.clock(0), true);
    due("clock(240)", x.clock(240), false);
    due("clock(100)", x.clock(100), true);
    due("clock(99)", x.clock(99), false);
    due("count(6)", x.count(6), 100);
    due("clock(100)", x.clock(100), true);
    due("clock(239)", x.clock(239), true);
    due("clock(240)", x.clock(240), false);
    due("count(6)", x.count(6), 239);
  }

  private static void rain() {
    MillStream x = two();
    int[][] bad = {{-1, 0, 1}, {240, 0, 1}, {0, -1, 1}, {0, 2, 1}, {0, 0, -1}, {0, 0, 1001}};
    for (int[] b : bad) {
      due("rain(" + b[0] + ", " + b[1] + ", " + b[2] + ")", x.rain(b[0], b[1], b[2]), -1);
    }
    due("count(1)", x.count(1), 0);
    x.clock(50);
    due("rain(239, 1, 1000)", x.rain(239, 1, 1000), 0);
    due("rain(0, 0, 7)", x.rain(0, 0, 7), 1);
    due("rain(0, 0, 0)", x.rain(0, 0, 0), 2);
    due("rain(0, 0, 9)", x.rain(0, 0, 9), 3);
    due("at(0, 0, 4, 1)", x.at(0, 0, 4, 1), 19);
    due("at(0, 0, 3, 1)", x.at(0, 0, 3, 1), 10);
    due("at(0, 0, 2, 1)", x.at(0, 0, 2, 1), 17);
    due("at(0, 0, 1, 1)", x.at(0, 0, 1, 1), 10);
    due("at(0, 0, 4, 1)", x.at(0, 0, 4, 1), 19);
    due("at(1, 0, 4, 1)", x.at(1, 0, 4, 1), 10);
    due("at(0, 1, 4, 1)", x.at(0, 1, 4, 1), 0);
    due("at(239, 1, 0, 1)", x.at(239, 1, 0, 1), 10);
    due("at(239, 1, 1, 1)", x.at(239, 1, 1, 1), 1010);
    for (int i = 4; i < 400; i++) {
      due("rain " + i, x.rain(i % 240, 1, i), i);
    }
    due("rain 400", x.rain(0, 0, 1), -1);
    due("count(1)", x.count(1), 400);
    due("at(239, 1, 400, 1)", x.at(239, 1, 400, 1), x.at(238, 0, 400, 9) + 239);
    due("at(239, 1, 401, 1)", x.at(239, 1, 401, 1), NO_SUCH);
  }

  private static void order() {
    MillStream x = two();
    due("order(-1, false, 0)", x.order(-1, false, 0), -1);
    due("order(2, true, 0)", x.order(2, true, 0), -1);
    due("order(0, false, -1)", x.order(0, false, -1), -1);
    due("order(0, false, 3)", x.order(0, false, 3), -1);
    due("order(0, true, 4)", x.order(0, true, 4), -1);
    due("order(0, true, -1)", x.order(0, true, -1), -1);
    due("count(2)", x.count(2), 0);
    due("order(0, false, 2)", x.order(0, false, 2), 0);
    due("order(0, false, 1)", x.order(0, false, 1), 1);
    due("order(0, true, 3)", x.order(0, true, 3), 2);
    due("of one hour the latest", x.at(0, 0, 0, 2), 1);
    x.clock(10);
    due("order(0, false, 2)", x.order(0, false, 2), 3);
    due("order(1, true, 1)", x.order(1, true, 1), 4);
    due("at(9, 0, 0, 2)", x.at(9, 0, 0, 2), 1);
    due("at(10, 0, 0, 2)", x.at(10, 0, 0, 2), 2);
    due("at(239, 0, 0, 2)", x.at(239, 0, 0, 2), 2);
    due("at(239, 0, 0, 3)", x.at(239, 0, 0, 3), 3);
    due("at(9, 1, 0, 3)", x.at(9, 1, 0, 3), 0);
    due("at(10, 1, 0, 3)", x.at(10, 1, 0, 3), 1);
    due("at(10, 1, 0, 2)", x.at(10, 1, 0, 2), 0);
    for (int i = 5; i < 200; i++) {
      due("order " + i, x.order(1, false, i % 3), i);
    }
    due("order 200", x.order(1, false, 0), -1);
    due("count(2)", x.count(2), 200);
    due("at(10, 1, 0, 2)", x.at(10, 1, 0, 2), 1);
  }

  private static void grist() {
    MillStream x = two();
    due("grist(-1, 1)", x.grist(-1, 1), -1);
    due("grist(2, 1)", x.grist(2, 1), -1);
    due("grist(0, 0)", x.grist(0, 0), -1);
    due("grist(0, 10001)", x.grist(0, 10001), -1);
    due("count(3)", x.count(3), 0);
    x.clock(3);
    due("grist(1, 10000)", x.grist(1, 10000), 0);
    due("told(0, 0, 0)", x.told(0, 0, 0), 1);
    due("told(0, 0, 1)", x.told(0, 0, 1), 10000);
    due("told(0, 0, 2)", x.told(0, 0, 2), 3);
    for (int i = 1; i < 60; i++) {
      due("grist " + i, x.grist(0, i), i);
    }
    due("grist 60", x.grist(0, 1), -1);
    due("count(3)", x.count(3), 60);
  }

  private static void row(MillStream x, int h, int m, int n, int... want) {
    for (int what = 0; what < want.length; what++) {
      due("at(" + h + ", " + m + ", " + n + ", " + what + ")", x.at(h, m, n, what), want[what]);
    }
  }

  private static void at() {
    MillStream x = new MillStream();
    x.mill(30, 5, 4, 2);
    x.mill(20, 4, 2, 9);
    x.mill(9, 0, 1, 1);
    x.spring(20);
    x.factors(2);
    x.factor(0, 3);
    x.factor(1, -2);
    x.order(0, false, 4);
    x.order(0, true, 2);
    x.order(1, false, 2);
    x.order(2, false, 1);
    x.order(2, true, 1);
    x.rain(1, 2, 50);
    row(x, 0, 0, 1, 0, 20, 4, 2, 0, 8, 0, 6, 0, 14);
    row(x, 0, 1, 1, 0, 0, 2, 0, 0, 0, 0, 0, 0, 0);
    row(x, 0, 2, 1, 0, 0, 1, 1, 0, 0, 0, 0, 0, 0);
    row(x, 1, 0, 1, 6, 20, 4, 2, 6, 8, 24, 6, 0, 14);
    row(x, 1, 1, 1, 0, 14, 2, 0, 0, 4, 0, 0, 0, 4);
    row(x, 1, 2, 1, 0, 50, 1, 1, 0, 2, 0, 3, 36, 41);
    // Mill 1 stands 6 above its mark of 4, mill 2 stands 9 above its mark of 0.
    row(x, 2, 0, 1, 12, 20, 4, 2, 6, 8, 24, 6, 0, 14);
    row(x, 2, 1, 1, 10, 14, 2, 0, 1, 4, 12, 0, 0, 4);
    row(x, 2, 2, 1, 9, 4, 1, 1, 9, 2, 6, 3, 0, 5);
    row(x, 3, 0, 1, 18, 20, 4, 2, 2, 8, 24, 6, 0, 14);
    row(x, 3, 1, 1, 20, 14, 2, 0, 12, 4, -8, 0, 10, 14);
    row(x, 3, 2, 1, 8, 4, 1, 1, 8, 2, 6, 3, 0, 5);
    row(x, 4, 0, 1, 24, 20, 4, 2, 8, 8, 24, 6, 0, 14);
    row(x, 4, 2, 1, 7, 14, 1, 1, 7, 2, 6, 3, 7, 12);
    row(x, 1, 2, 0, 0, 0, 1, 1, 0, 0, 0, 0, 0, 0);
    int[][] bad = {{-1, 0, 0, 0}, {240, 0, 0, 0}, {0, -1, 0, 0}, {0, 3, 0, 0}, {0, 0, -1, 0}, {0, 0, 2, 0}, {0, 0, 0, -1},
      {0, 0, 0, 10}, {Integer.MIN_VALUE, 0, 0, 0}, {0, Integer.MAX_VALUE, 0, 0}};
    for (int[] b : bad) {
      due("at(" + b[0] + ", " + b[1] + ", " + b[2] + ", " + b[3] + ")", x.at(b[0], b[1], b[2], b[3]), NO_SUCH);
    }
    due("at(239, 2, 1, 2)", x.at(239, 2, 1, 2), 1);
    // The wheel takes first, then the gate has what is left.
    MillStream y = new MillStream();
    y.mill(10, 0, 4, 9);
    y.order(0, false, 4);
    y.order(0, true, 9);
    y.spring(5);
    row(y, 0, 0, 0, 0, 5, 4, 9, 0, 5, 0, 0, 0, 5);
    y.spring(20);
    row(y, 0, 0, 0, 0, 20, 4, 9, 0, 8, 0, 12, 0, 20);
    y.spring(100);
    row(y, 0, 0, 0, 0, 100, 4, 9, 0, 8, 0, 27, 55, 90);
    row(y, 1, 0, 0, 10, 100, 4, 9, 10, 8, 8, 27, 65, 100);
  }

  private static void sea() {
    MillStream x = two();
    x.order(0, false, 2);
    x.order(1, false, 1);
    int sum = 0;
    for (int h = 0; h < 240; h++) {
      due("sea(" + h + ", 0)", x.sea(h, 0), sum);
      sum += x.at(h, 1, 0, 9);
    }
    due("sea(240, 0)", x.sea(240, 0), sum);
    due("sea(-1, 0)", x.sea(-1, 0), -1);
    due("sea(241, 0)", x.sea(241, 0), -1);
    due("sea(0, 1)", x.sea(0, 1), -1);
    due("sea(0, -1)", x.sea(0, -1), -1);
    x.rain(0, 1, 150);
    due("sea(1, 1)", x.sea(1, 1), 50);
    due("sea(1, 0)", x.sea(1, 0), 0);
  }

  /** Whether a condition holds for a mill in an hour: it is told as what that mill must not do. */
  private static boolean holds(MillStream made, String name, String condition, int h, int m) {
    due("read() of " + condition, take(made, "act " + name + " from 0; mill " + m + " must 0 == 1 if " + condition + "; end"), 0);
    int rule = made.count(5) - 1;
    int n = made.count(1);
    for (int i = 0; i < 210; i++) {
      if (made.broken(h, n, i) == 100 * m + rule) {
        return true;
      }
    }
    return false;
  }

  private static MillStream three() {
    MillStream x = new MillStream();
    x.mill(100, 11, 2, 5);
    x.mill(200, 22, 3, 6);
    x.mill(300, 33, 4, 7);
    x.spring(9);
    x.factor(0, 2);
    x.order(0, false, 1);
    x.order(1, false, 2);
    x.order(1, true, 1);
    x.rain(26, 0, 40);
    x.rain(26, 1, 50);
    x.rain(26, 2, 60);
    return x;
  }

  private static MillStream threeOpened() {
    MillStream x = three();
    due("read()", take(x, "act open from 0; mill 2 opens 3; end"), 0);
    return x;
  }

  private static void lawVars() {
    int h = 27;
    String[] names = {"level", "mark", "cap", "below", "above", "in", "wheel", "gate", "hour", "day", "work", "out"};
    for (int m = 0; m < 3; m++) {
      MillStream x = threeOpened();
      int[] want = {x.at(h, m, 3, 0), 11 * (m + 1), 100 * (m + 1), m < 2 ? x.at(h, m + 1, 3, 0) : 0,
        m > 0 ? x.at(h, m - 1, 3, 0) : 0, x.at(h, m, 3, 1), x.at(h, m, 3, 2), x.at(h, m, 3, 3), 3, 1, x.at(h, m, 3, 6),
        x.at(h, m, 3, 9)};
      for (int i = 0; i < names.length; i++) {
        due(names[i] + " of mill " + m, holds(threeOpened(), "t", names[i] + " == " + want[i], h, m), true);
        due(names[i] + " of mill " + m, holds(threeOpened(), "t", names[i] + " != " + want[i], h, m), false);
      }
    }
    due("the gate as the law opened it", holds(threeOpened(), "t", "gate == 3", h, 2), true);
  }

  private static void lawSums() {
    String[] yes = {"1 + 2 * 3 == 7", "(1 + 2) * 3 == 9", "10 - 3 - 2 == 5", "-2 * 3 + 10 == 4", "-(2 + 3) == 0 - 5",
      "2 - (-3) == 5", "9999 * 9999 * 9999 == 0 - (9999 * 9999 * (-9999))", "1 == 2 and 1 == 2 or 1 == 1",
      "1 == 1 or 1 == 2 and 1 == 2", "1 < 2", "2 <= 2", "1 != 2", "2 * (3 + 4 * (5 + 6 * (7 + 8))) == 766",
      "1 == 1 and 2 == 2 and 3 == 3", "1 == 2 or 2 == 3 or 3 == 3", "0 < 4096*4096*64 + 4096*4096*63",
      "4096*4096*64 + 4096*4096*64 < 0", "4096*4096*256 == 0", "(((((((-1))))))) + 1 == 0"};
    String[] no = {"1 + 2 * 3 == 9", "10 - 3 - 2 == 9", "2 < 2", "2 < 1", "3 <= 2", "2 != 2", "1 == 2",
      "1 == 1 and 1 == 2", "1 == 2 or 1 == 3"};
    for (String c : yes) {
      due(c, holds(two(), "t", c, 0, 0), true);
    }
    for (String c : no) {
      due(c, holds(two(), "t", c, 0, 0), false);
    }
  }

  private static void lawOpens() {
    // Full pond of 200, no spring: an open gate of g lets out 3 * g an hour.
    MillStream x = full("act a from 0; mill 0 opens 4 if 199 < level; end");
    row(x, 1, 0, 1, 200, 0, 0, 4, 200, 0, 0, 12, 0, 12);
    row(x, 2, 0, 1, 188, 0, 0, 0, 188, 0, 0, 0, 0, 0);
    due("at most the gate's most", full("act a from 0; any opens 50; end").at(1, 0, 1, 3), 9);
    due("below 0", full("act a from 0; any opens -1; end").at(1, 0, 1, 3), 0);
    due("the greatest of two", full("act a from 0; any opens 2; mill 0 opens 5; any opens 3; end").at(1, 0, 1, 3), 5);
    due("for another mill", full("act a from 0; mill 1 opens 5; end").at(1, 0, 1, 3), 0);
    due("wrapped below 0", full("act a from 0; any opens 4096*4096*128; end").at(1, 0, 1, 3), 0);
    due("the gate by orders", full("act a from 0; any opens 2; any opens gate + 3; end").at(1, 0, 1, 3), 3);
    due("no work, no out", full("act a from 0; any opens 3 + work + out; end").at(1, 0, 1, 3), 3);
    due("what comes in", full("act a from 0; any opens 5 if in == 200; end").at(0, 0, 1, 3), 5);
    due("the hour", full("act a from 0; any opens hour; end").at(31, 0, 1, 3), 7);
    due("the day", full("act a from 0; any opens day; end").at(73, 0, 1, 3), 3);
    MillStream y = full("act a from 1 until 3; any opens 5; end");
    due("ahead of its days", y.at(23, 0, 1, 3), 0);
    due("on its first day", y.at(24, 0, 1, 3), 5);
    due("on its last day", y.at(71, 0, 1, 3), 5);
    due("behind its days", y.at(72, 0, 1, 3), 0);
    due("for ever", full("act a from 9; any opens 5; end").at(239, 0, 1, 3), 5);
    due("never yet", full("act a from 10; any opens 5; end").at(239, 0, 1, 3), 0);
    MillStream z = full("act a from 0; any opens 5; end");
    due("order(0, true, 7)", z.order(0, true, 7), 0);
    due("an order of more stays", z.at(1, 0, 1, 3), 7);
    z.order(0, true, 2);
    due("an order of less is opened", z.at(1, 0, 1, 3), 5);
    MillStream w = full("act a from 0; any opens wheel; end");
    w.order(0, false, 3);
    due("by the wheel", w.at(0, 0, 1, 3), 3);
  }

  /** Ten texts of nearly 600 tokens each, of which each opens the gate on its own day as its last token says. */
  private static void lawInFull() {
    MillStream x = full("");
    for (int day = 0; day < 10; day++) {
      String days = " from " + day + " until " + (day + 1) + ";";
      fault(x, "act " + (char) ('a' + day) + days + "any opens 0" + "+0".repeat(280) + "+" + (9 - day) + ";end", 0, -1);
    }
    for (int day = 0; day < 10; day++) {
      due("the gate on day " + day, x.at(24 * day + 5, 0, 1, 3), 9 - day);
    }
    due("count(5)", x.count(5), 10);
    // The deepest there can be: two operands wait in each of nine sums within one another.
    String deep = "";
    for (int i = 0; i < 8; i++) {
      deep = "1+2*(" + (deep.isEmpty() ? "3" : deep) + ")";
    }
    int want = 3;
    for (int i = 0; i < 8; i++) {
      want = 1 + 2 * want;
    }
    String deepest = "0 == 1 or 0 == 0 and " + want + " == " + deep;
    due(deepest, holds(two(), "t", deepest, 0, 0), true);
    due(deepest, holds(two(), "t", deepest.replace("3", "4"), 0, 0), false);
  }

  private static void broken() {
    MillStream x = two();
    take(x, "act a from 0; any must 1 == 2; mill 1 opens 1; mill 1 must 2 == 3; mill 5 must 1 == 2; end");
    int[] want = {0, 100, 102, -1, -1};
    for (int i = 0; i < want.length; i++) {
      due("broken(0, 0, " + i + ")", x.broken(0, 0, i), want[i]);
      due("broken(239, 0, " + i + ")", x.broken(239, 0, i), want[i]);
    }
    due("broken(0, 0, -1)", x.broken(0, 0, -1), -1);
    due("broken(0, 0, MIN)", x.broken(0, 0, Integer.MIN_VALUE), -1);
    due("broken(-1, 0, 0)", x.broken(-1, 0, 0), -1);
    due("broken(240, 0, 0)", x.broken(240, 0, 0), -1);
    due("broken(0, 1, 0)", x.broken(0, 1, 0), -1);
    due("broken(0, -1, 0)", x.broken(0, -1, 0), -1);
    take(x, "act b from 2 until 3; mill 0 must level < 1 if hour == 7; end");
    due("broken(7, 0, 0)", x.broken(7, 0, 0), 0);
    due("broken(7, 0, 1)", x.broken(7, 0, 1), 100);
    due("broken(55, 0, 1)", x.broken(55, 0, 1), 4);
    due("broken(54, 0, 1)", x.broken(54, 0, 1), 100);
    due("broken(79, 0, 1)", x.broken(79, 0, 1), 100);
    MillStream y = two();
    take(y, "act a from 0; mill 1 must level == 0; end");
    y.rain(3, 1, 5);
    due("broken(4, 0, 0)", y.broken(4, 0, 0), -1);
    due("broken(4, 1, 0)", y.broken(4, 1, 0), 100);
    due("broken(3, 1, 0)", y.broken(3, 1, 0), -1);
    MillStream z = full("act a from 0; any must work < 8; any must out == 8; end");
    z.order(0, false, 4);
    due("the work of the hour", z.broken(1, 1, 0), 0);
    due("the out of the hour", z.broken(1, 1, 1), -1);
    due("the work of a head of 0", z.broken(0, 1, 0), -1);
  }

  private static void first() {
    MillStream x = two();
    take(x, "act a from 0; mill 0 must level < 50; mill 1 must hour != 2; end");
    due("first(0, 240, 0)", x.first(0, 240, 0), 2);
    due("first(2, 240, 0)", x.first(2, 240, 0), 2);
    due("first(3, 240, 0)", x.first(3, 240, 0), 5);
    due("first(0, 2, 0)", x.first(0, 2, 0), -1);
    due("first(0, 3, 0)", x.first(0, 3, 0), 2);
    due("first(3, 3, 0)", x.first(3, 3, 0), -1);
    due("first(9, 3, 0)", x.first(9, 3, 0), -1);
    due("first(239, 240, 0)", x.first(239, 240, 0), 239);
    due("first(240, 240, 0)", x.first(240, 240, 0), -1);
    due("first(-1, 240, 0)", x.first(-1, 240, 0), -1);
    due("first(0, 241, 0)", x.first(0, 241, 0), -1);
    due("first(0, 240, 1)", x.first(0, 240, 1), -1);
    due("first(0, 240, -1)", x.first(0, 240, -1), -1);
    x.rain(0, 0, 60);
    due("first(0, 240, 1)", x.first(0, 240, 1), 1);
    due("first(0, 240, 0)", x.first(0, 240, 0), 2);
  }

  /** Mill 0's wheel of 1 from hour 0 on and of 0 from hour 5 on; mill 1's of 2 all the time. */
  private static MillStream ordered() {
    MillStream x = two();
    x.order(0, false, 2);
    x.order(0, false, 1);
    x.order(1, false, 2);
    x.clock(5);
    x.order(0, false, 0);
    return x;
  }

  private static void loss() {
    MillStream x = ordered();
    // Mill 1 has 2 an hour, from hour 1 on; what it uses comes to it in that hour; so it has no head, and no work.
    due("work", x.at(3, 1, 0, 6), 0);
    due("of mill 0: order 1", x.loss(1, 0, 0, 5, 0), 8);
    due("of mill 0: order 1, from 2", x.loss(1, 0, 2, 5, 0), 6);
    due("of mill 0: order 1, up to 4", x.loss(1, 0, 0, 4, 0), 6);
    due("of mill 0: order 0, of one hour not the latest", x.loss(0, 0, 0, 240, 0), 0);
    due("of mill 0: order 3, what was set ahead stays", x.loss(3, 0, 0, 8, 0), 6);
    due("of mill 0: order 3, ahead of it", x.loss(3, 0, 0, 5, 0), 0);
    due("of mill 0: order 2", x.loss(2, 0, 0, 9, 0), 0);
    due("loss(1, 0, 3, 3, 0)", x.loss(1, 0, 3, 3, 0), 0);
    due("loss(1, 0, 240, 240, 0)", x.loss(1, 0, 240, 240, 0), 0);
    due("loss(-1, 0, 0, 5, 0)", x.loss(-1, 0, 0, 5, 0), NO_SUCH);
    due("loss(4, 0, 0, 5, 0)", x.loss(4, 0, 0, 5, 0), NO_SUCH);
    due("loss(1, -1, 0, 5, 0)", x.loss(1, -1, 0, 5, 0), NO_SUCH);
    due("loss(1, 2, 0, 5, 0)", x.loss(1, 2, 0, 5, 0), NO_SUCH);
    due("loss(1, 0, -1, 5, 0)", x.loss(1, 0, -1, 5, 0), NO_SUCH);
    due("loss(1, 0, 241, 5, 0)", x.loss(1, 0, 241, 5, 0), NO_SUCH);
    due("loss(1, 0, 0, 241, 0)", x.loss(1, 0, 0, 241, 0), NO_SUCH);
    due("loss(1, 0, 0, -1, 0)", x.loss(1, 0, 0, -1, 0), NO_SUCH);
    due("loss(1, 0, 0, 5, 1)", x.loss(1, 0, 0, 5, 1), NO_SUCH);
    due("loss(1, 0, 0, 5, -1)", x.loss(1, 0, 0, 5, -1), NO_SUCH);
    x.rain(0, 1, 60);
    due("drowned: mill 1 stands at 60 over its mark of 30", x.at(1, 0, 1, 4), 8 - 26);
    due("of mill 0: order 1, while it is drowned", x.loss(1, 0, 0, 2, 1), 0);
    due("of mill 0: order 1, as known before", x.loss(1, 0, 0, 2, 0), 2);
  }

  /** Mill 0 has water enough and its wheel feeds mill 1, which uses as much and stands at 6. */
  private static MillStream fed() {
    MillStream x = new MillStream();
    x.mill(1000, 0, 2, 3);
    x.mill(100, 30, 2, 3);
    x.rain(0, 0, 500);
    x.rain(0, 1, 10);
    x.order(0, false, 2);
    x.order(1, false, 2);
    x.clock(3);
    x.order(0, false, 0);
    return x;
  }

  private static void culprit() {
    MillStream x = fed();
    due("loss(2, 1, 0, 10, 2)", x.loss(2, 1, 0, 10, 2), 18);
    due("culprit(1, 0, 10, 2)", x.culprit(1, 0, 10, 2), 2);
    due("culprit(1, 0, 6, 2)", x.culprit(1, 0, 6, 2), 2);
    due("culprit(1, 0, 5, 2)", x.culprit(1, 0, 5, 2), -1);
    due("culprit(1, 0, 3, 2)", x.culprit(1, 0, 3, 2), -1);
    due("culprit(1, 5, 6, 2)", x.culprit(1, 5, 6, 2), 2);
    due("culprit(1, 99, 100, 2)", x.culprit(1, 99, 100, 2), 2);
    due("culprit(1, 240, 240, 2)", x.culprit(1, 240, 240, 2), -1);
    due("culprit(1, 10, 0, 2)", x.culprit(1, 10, 0, 2), -1);
    due("as known by none", x.culprit(1, 0, 10, 0), -1);
    due("its own", x.culprit(0, 0, 10, 2), -1);
    due("loss(2, 0, 0, 10, 2)", x.loss(2, 0, 0, 10, 2), 28);
    int[][] bad = {{-1, 0, 10, 2}, {2, 0, 10, 2}, {1, -1, 10, 2}, {1, 0, 241, 2}, {1, 0, 10, 3}, {1, 0, 10, -1},
      {1, 241, 10, 2}, {1, 0, -1, 2}};
    for (int[] b : bad) {
      due("culprit(" + b[0] + ", " + b[1] + ", " + b[2] + ", " + b[3] + ")", x.culprit(b[0], b[1], b[2], b[3]), -1);
    }
    // The mill's own order of a lesser wheel has the only loss up to hour 5.
    x.order(1, false, 1);
    due("loss(3, 1, 0, 5, 2)", x.loss(3, 1, 0, 5, 2), 4);
    due("culprit(1, 0, 5, 2)", x.culprit(1, 0, 5, 2), -1);
    due("loss(2, 1, 0, 10, 2)", x.loss(2, 1, 0, 10, 2), 4);
    due("culprit(1, 0, 10, 2)", x.culprit(1, 0, 10, 2), 2);
  }

  private static void culpritOfEqual() {
    // The wheel above stands still in hours 3 and 5: either of both hours is one too many.
    MillStream x = fed();
    x.clock(4);
    x.order(0, false, 2);
    x.clock(5);
    x.order(0, false, 0);
    x.clock(6);
    x.order(0, false, 2);
    due("loss(2, 1, 0, 10, 2)", x.loss(2, 1, 0, 10, 2), 14);
    due("loss(4, 1, 0, 10, 2)", x.loss(4, 1, 0, 10, 2), 14);
    due("culprit(1, 0, 10, 2)", x.culprit(1, 0, 10, 2), 2);
    due("loss(3, 1, 0, 10, 2) < 0", x.loss(3, 1, 0, 10, 2) < 0, true);
  }

  private static void culpritBelow() {
    // Mill 1's pond drowns mill 0's wheel, once its gate is shut.
    MillStream x = new MillStream();
    x.mill(100, 20, 2, 3);
    x.mill(100, 0, 2, 9);
    x.mill(100, 0, 2, 9);
    x.rain(0, 0, 100);
    x.rain(0, 1, 90);
    x.order(0, false, 2);
    x.order(1, true, 9);
    x.clock(1);
    x.order(1, true, 0);
    due("one alone", x.culprit(0, 0, 100, 2), 2);
    due("as known by 0", x.culprit(0, 0, 100, 0), -1);
    x.order(2, true, 0);
    due("one that changes nothing", x.culprit(0, 0, 100, 2), 2);
    x.order(1, true, 0);
    due("two that are alike: without either the other stays", x.culprit(0, 0, 100, 2), -1);
  }

  private static void plan() {
    MillStream x = full("");
    due("plan(0, 1, 0)", x.plan(0, 1, 0), 0);
    due("plan(-1, 1, 0)", x.plan(-1, 1, 0), -2);
    due("plan(1, 1, 0)", x.plan(1, 1, 0), -2);
    due("plan(0, 0, 0)", x.plan(0, 0, 0), -2);
    due("plan(0, 7, 0)", x.plan(0, 7, 0), -2);
    due("plan(0, 1, -1)", x.plan(0, 1, -1), -2);
    due("plan(0, 1, 10001)", x.plan(0, 1, 10001), -2);
    due("plan(0, 6, 10000)", x.plan(0, 6, 10000), -1);
    due("plan(0, 6, 40)", x.plan(0, 6, 40), 0);
    due("planned(0)", x.planned(0), 0);
    for (int i = 1; i < 6; i++) {
      due("planned(" + i + ")", x.planned(i), 4);
    }
    due("plan(0, 6, 41)", x.plan(0, 6, 41), -1);
    due("plan(0, 4, 13)", x.plan(0, 4, 13), 0);
    planned(x, 0, 0, 3, 4);
    x.clock(234);
    due("plan(0, 6, 0)", x.plan(0, 6, 0), 0);
    x.clock(235);
    due("plan(0, 6, 0)", x.plan(0, 6, 0), -2);
    due("plan(0, 5, 0)", x.plan(0, 5, 0), 0);
    x.clock(239);
    due("plan(0, 1, 8)", x.plan(0, 1, 8), 0);
    due("plan(0, 2, 0)", x.plan(0, 2, 0), -2);
    planned(x, 4);
  }

  private static void planned(MillStream x, int... want) {
    for (int i = 0; i < want.length; i++) {
      due("planned(" + i + ")", x.planned(i), want[i]);
    }
    due("planned(" + want.length + ")", x.planned(want.length), -1);
  }

  private static void planByWaste() {
    // A full pond, and a spring of 6: what the wheel does not use spills.
    MillStream x = full("");
    x.spring(6);
    x.clock(10);
    due("level", x.at(10, 0, 1, 0), 200);
    due("plan(0, 3, 0)", x.plan(0, 3, 0), 0);
    planned(x, 3, 3, 3);
    // An order of the mill's own is put aside; its gate's is not.
    x.order(0, false, 4);
    x.order(0, true, 1);
    due("plan(0, 2, 0)", x.plan(0, 2, 0), 6);
    planned(x, 2, 1);
    due("the order stays", x.at(10, 0, 1, 2), 4);
    // With a must that forbids the great wheels the least waste is more.
    take(x, "act a from 0; mill 0 must wheel < 2 if 2 * wheel != 8; end");
    due("plan(0, 1, 0)", x.plan(0, 1, 0), 3);
    planned(x, 4);
    take(x, "act b from 0; any must wheel != 4; end");
    due("plan(0, 1, 0)", x.plan(0, 1, 0), 4);
    planned(x, 1);
    due("plan(0, 1, 3)", x.plan(0, 1, 3), -1);
    planned(x, 1);
    // A must of another mill counts, too: mill 1 stands at what mill 0 spilled in hour 0.
    MillStream y = two();
    y.rain(0, 0, 100);
    y.clock(2);
    take(y, "act a from 0; mill 1 must level < 4; end");
    due("at(2, 1, 1, 0)", y.at(2, 1, 1, 0), 10);
    due("plan(0, 1, 0) with a must that is broken", y.plan(0, 1, 0), -1);
    due("planned(0)", y.planned(0), -1);
  }

  private static void planByLaw() {
    // Mill 1 must not stand above 2; it uses 4 an hour; mill 0 has 60, and no spring.
    MillStream x = new MillStream();
    x.mill(100, 20, 4, 3);
    x.mill(100, 30, 2, 3);
    x.rain(0, 0, 60);
    x.order(1, false, 2);
    take(x, "act a from 0; mill 1 must level <= 2; end");
    x.clock(1);
    due("plan(0, 4, 0)", x.plan(0, 4, 0), 0);
    planned(x, 0, 0, 0, 0);
    // What is let out in an hour is in the pond two hours later, less 4: the last two are free.
    due("plan(0, 4, 27)", x.plan(0, 4, 27), -1);
    due("plan(0, 4, 26)", x.plan(0, 4, 26), 0);
    planned(x, 2, 3, 4, 4);
    due("plan(0, 4, 25)", x.plan(0, 4, 25), 0);
    planned(x, 2, 3, 4, 4);
    due("plan(0, 4, 24)", x.plan(0, 4, 24), 0);
    planned(x, 1, 3, 4, 4);
    // The plan is of the wheels alone: nothing is ordered by it.
    due("at(1, 0, 1, 2)", x.at(1, 0, 1, 2), 0);
    due("count(2)", x.count(2), 1);
    // All facts are known to it.
    x.rain(1, 1, 7);
    due("plan(0, 4, 0)", x.plan(0, 4, 0), -1);
    planned(x, 1, 3, 4, 4);
    x.rain(1, 1, 0);
    due("plan(0, 1, 0)", x.plan(0, 1, 0), 0);
    planned(x, 0);
  }

  private static void plannedEdges() {
    MillStream x = full("");
    due("planned(0)", x.planned(0), -1);
    x.plan(0, 3, 8);
    planned(x, 0, 0, 4);
    due("planned(-1)", x.planned(-1), -1);
    due("planned(MAX)", x.planned(Integer.MAX_VALUE), -1);
    x.plan(0, 9, 8);
    planned(x, 0, 0, 4);
    x.plan(0, 1, 9000);
    planned(x, 0, 0, 4);
    x.plan(0, 2, 2);
    planned(x, 0, 1);
  }

  private static void told() {
    MillStream x = full("");
    x.order(0, false, 4);
    // 8 an hour from hour 1 on, until the pond of 200 is empty.
    due("grist", x.grist(0, 20), 0);
    x.grist(0, 4);
    x.grist(0, 8);
    x.grist(0, 10000);
    due("told(0, 1, 3)", x.told(0, 1, 3), 3);
    due("told(1, 1, 3)", x.told(1, 1, 3), 3);
    due("told(2, 1, 3)", x.told(2, 1, 3), 4);
    due("told(3, 1, 3)", x.told(3, 1, 3), -1);
    due("told(0, 0, 3)", x.told(0, 0, 3), -1);
    due("told(0, 1, 4)", x.told(0, 1, 4), 0);
    x.clock(1);
    due("told(0, 1, 4)", x.told(0, 1, 4), 0);
    x.clock(2);
    due("told(0, 1, 4)", x.told(0, 1, 4), 8);
    due("told(0, 0, 4)", x.told(0, 0, 4), 0);
    x.clock(4);
    due("told(0, 1, 4)", x.told(0, 1, 4), 20);
    due("told(1, 1, 4)", x.told(1, 1, 4), 4);
    due("told(2, 1, 4)", x.told(2, 1, 4), 0);
    due("told(0, 1, 0)", x.told(0, 1, 0), 0);
    due("told(2, 1, 1)", x.told(2, 1, 1), 8);
    due("told(2, 1, 2)", x.told(2, 1, 2), 0);
    due("told(-1, 1, 0)", x.told(-1, 1, 0), -1);
    due("told(4, 1, 0)", x.told(4, 1, 0), -1);
    due("told(0, 2, 0)", x.told(0, 2, 0), -1);
    due("told(0, -1, 0)", x.told(0, -1, 0), -1);
    due("told(0, 1, 5)", x.told(0, 1, 5), -1);
    due("told(0, 1, -1)", x.told(0, 1, -1), -1);
    x.clock(239);
    // The levels go by 8 down to 8 in hour 24: 192 of work, 32 to the three others.
    due("told(3, 1, 4)", x.told(3, 1, 4), 192 - 32);
  }

  private static void toldTurns() {
    // A grist that is brought in an hour has that hour's work; what came before it is none's.
    MillStream x = full("");
    x.order(0, false, 4);
    x.clock(3);
    x.grist(0, 8);
    x.clock(6);
    x.grist(0, 9);
    due("told(0, 1, 3)", x.told(0, 1, 3), 3);
    due("told(1, 1, 3)", x.told(1, 1, 3), 7);
    // Work below 0 grinds nothing, and takes nothing away.
    x.factors(20);
    x.factor(14, -5);
    x.factor(13, 0);
    due("at(6, 0, 1, 6)", x.at(6, 0, 1, 6), 8);
    due("at(7, 0, 1, 6)", x.at(7, 0, 1, 6), -40);
    due("at(8, 0, 1, 6)", x.at(8, 0, 1, 6), 0);
    due("at(9, 0, 1, 6)", x.at(9, 0, 1, 6), 8);
    due("told(1, 1, 3)", x.told(1, 1, 3), 9);
    x.clock(9);
    due("told(1, 1, 4)", x.told(1, 1, 4), 8);
    // Each mill has its own.
    MillStream y = two();
    y.order(0, false, 2);
    y.grist(1, 4);
    y.grist(0, 4);
    due("told(0, 0, 3)", y.told(0, 0, 3), -1);
    due("told(1, 0, 3)", y.told(1, 0, 3), 1);
  }

  private static void tolls() {
    MillStream x = full("");
    x.mill(100, 100, 1, 1);
    x.order(0, false, 4);
    x.grist(0, 31);
    x.grist(0, 15);
    x.grist(0, 33);
    x.grist(1, 16);
    x.grist(0, 10000);
    // Ended in hours 4 (31), 6 (46), 10 (79).
    due("tolls(0, 4, 1)", x.tolls(0, 4, 1), 0);
    due("tolls(0, 5, 1)", x.tolls(0, 5, 1), 1);
    due("tolls(0, 10, 1)", x.tolls(0, 10, 1), 1);
    due("tolls(0, 11, 1)", x.tolls(0, 11, 1), 3);
    due("tolls(0, 240, 1)", x.tolls(0, 240, 1), 3);
    due("tolls(0, 240, 0)", x.tolls(0, 240, 0), 0);
    due("tolls(0, 0, 1)", x.tolls(0, 0, 1), 0);
    due("tolls(1, 240, 1)", x.tolls(1, 240, 1), 0);
    x.order(1, false, 1);
    due("tolls(1, 240, 1)", x.tolls(1, 240, 1), 1);
    due("tolls(-1, 0, 1)", x.tolls(-1, 0, 1), -1);
    due("tolls(2, 0, 1)", x.tolls(2, 0, 1), -1);
    due("tolls(0, -1, 1)", x.tolls(0, -1, 1), -1);
    due("tolls(0, 241, 1)", x.tolls(0, 241, 1), -1);
    due("tolls(0, 0, 2)", x.tolls(0, 0, 2), -1);
    due("tolls(0, 0, -1)", x.tolls(0, 0, -1), -1);
  }

  private static void count() {
    MillStream x = two();
    x.rain(0, 0, 1);
    x.rain(0, 0, 1);
    x.rain(0, 0, 1);
    for (int i = 0; i < 4; i++) {
      x.order(0, false, 1);
    }
    for (int i = 0; i < 5; i++) {
      x.grist(0, 1);
    }
    take(x, "act a from 0; any opens 1; any opens 2; any must 1 == 1; end act b from 1; end");
    x.clock(17);
    x.factors(9);
    x.feed(0, 0, 0, 0, 0);
    int[] want = {2, 3, 4, 5, 2, 3, 17, 9, 20};
    for (int what = 0; what < want.length; what++) {
      due("count(" + what + ")", x.count(what), want[what]);
    }
    due("count(-1)", x.count(-1), -1);
    due("count(9)", x.count(9), -1);
    due("count(MAX)", x.count(Integer.MAX_VALUE), -1);
  }

  public static void main(String[] args) {
    promise = "1 a new object";
    newObject();
    promise = "2 feed";
    feed();
    promise = "3 back";
    back();
    promise = "4 read";
    readSyntax();
    readRules();
    readRoom();
    readOthers();
    promise = "5 place";
    place();
    promise = "6 mill";
    mill();
    promise = "7 spring";
    spring();
    promise = "8 factors";
    factors();
    promise = "9 factor";
    factor();
    promise = "10 clock";
    clock();
    promise = "11 rain";
    rain();
    promise = "12 order";
    order();
    promise = "13 grist";
    grist();
    promise = "14 at";
    at();
    lawOpens();
    promise = "15 sea";
    sea();
    promise = "16 broken";
    lawVars();
    lawSums();
    lawInFull();
    broken();
    promise = "17 first";
    first();
    promise = "18 loss";
    loss();
    promise = "19 culprit";
    culprit();
    culpritOfEqual();
    culpritBelow();
    promise = "20 plan";
    plan();
    planByWaste();
    planByLaw();
    promise = "21 planned";
    plannedEdges();
    promise = "22 told";
    told();
    toldTurns();
    promise = "23 tolls";
    tolls();
    promise = "24 count";
    count();
    System.out.println(wrong == 0 ? "all answers are as due" : wrong + " answers are not as due");
    if (wrong != 0) {
      System.exit(1);
    }
  }
}
