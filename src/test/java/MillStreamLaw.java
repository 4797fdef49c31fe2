import java.io.IOException;

/** The document's terms, part II, the law: each sentence has a test of its own, at the bounds that it names and beyond. */
public final class MillStreamLaw {
  private static final String II = "II";
  private static final String HEAD = "act a from 0;";
  private static final String MUST = "act a from 0;any must ";
  private static final String OPENS = "act a from 0;any opens ";
  private static final String[] VARS =
      {"level", "mark", "cap", "below", "above", "in", "wheel", "gate", "hour", "day", "work", "out"};
  private static final String[] OTHER_WORDS =
      {"act", "from", "until", "end", "must", "if", "opens", "mill", "any", "or", "and"};

  private static String rules(int n) {
    return "any opens 1;".repeat(n);
  }

  private static MillStream one() {
    MillStream x = new MillStream();
    x.mill(100, 0, 4, 9);
    return x;
  }

  /** Whether a condition holds for a lonely mill in hour 0: it is told as a must, which is broken or not. */
  private static boolean holds(String condition) {
    MillStream x = one();
    Sheet.due("read() of " + condition, Sheet.take(x, MUST + condition + ";end"), 0);
    return x.broken(0, 0, 0) == -1;
  }

  private static void yes(String... conditions) {
    for (String c : conditions) {
      Sheet.due(c, holds(c), true);
    }
  }

  private static void no(String... conditions) {
    for (String c : conditions) {
      Sheet.due(c, holds(c), false);
    }
  }

  /** What a lonely mill's gate, of 9 at most, is opened to in hour 0. */
  private static int opened(String sum) {
    MillStream x = one();
    Sheet.due("read() of " + sum, Sheet.take(x, OPENS + sum + ";end"), 0);
    return x.at(0, 0, 0, 3);
  }

  private static void length() {
    Sheet.says(II, "THE LAW: texts of at most 2,000 bytes;");
    String act = "act a from 0;any opens 3;end";
    MillStream x = one();
    Sheet.fault(x, " ".repeat(2000 - act.length()) + act, 0, -1);
    Sheet.due("count(5)", x.count(5), 1);
    Sheet.due("the gate", x.at(0, 0, 0, 3), 3);
    Sheet.fault(act + " ".repeat(2000 - act.length()), 0, -1);
    Sheet.fault(" ".repeat(1999) + "#", 1, 1999);
    Sheet.fault(" ".repeat(2000 - HEAD.length()) + HEAD, 1, 2000);
    MillStream y = one();
    Sheet.put(y, " ".repeat(2000));
    Sheet.due("a feed more", y.feed(0, 0, 0, 0, 0), -1);
    Sheet.due("read() of what came", y.read(), 0);

    Sheet.says(II, "each that is taken is added.");
    MillStream z = one();
    Sheet.fault(z, "act a from 0;any must 1==2;end", 0, -1);
    Sheet.fault(z, "act b from 0;any must 1==3;end act c from 0;end", 0, -1);
    Sheet.fault(z, "", 0, -1);
    Sheet.fault(z, "act d from 0;any opens 2;any must 1==4;end", 0, -1);
    Sheet.due("count(4)", z.count(4), 4);
    Sheet.due("count(5)", z.count(5), 4);
    Sheet.due("what is broken", Sheet.broken(z, 0), "0 1 3");
    Sheet.due("the gate", z.at(0, 0, 0, 3), 2);
    z.clock(100);
    Sheet.fault(z, "act e from 0;any opens 6;end", 0, -1);
    Sheet.due("the gate of hour 0, by what is read in hour 100", z.at(0, 0, 0, 3), 6);
    // Ten texts of nearly 600 tokens each, each in force on a day of its own.
    MillStream many = one();
    for (int day = 0; day < 10; day++) {
      String days = " from " + day + " until " + (day + 1) + ";";
      String text = "act " + (char) ('a' + day) + days + "any opens 0" + "+0".repeat(280) + "+" + (9 - day) + ";end";
      Sheet.due("read() of text " + day, Sheet.take(many, text), 0);
    }
    for (int day = 0; day < 10; day++) {
      Sheet.due("the gate on day " + day, many.at(24 * day, 0, 0, 3), 9 - day);
    }
  }

  private static void blanks() {
    Sheet.says(II, "TOKENS, the longest that can be, with blanks (9, 10, 13, 32) between or not:");
    for (int b = 0; b < 256; b++) {
      boolean blank = b == 9 || b == 10 || b == 13 || b == 32;
      Sheet.fault("act a from 0;" + (char) b + "end", blank ? 0 : 1, blank ? -1 : 13);
      Sheet.fault("act" + (char) b + "a from 0;end", blank ? 0 : 1, blank ? -1 : b >= 'a' && b <= 'z' ? 0 : 3);
    }
    Sheet.fault("\t\n\r act \t\n\r a\t\tfrom\n0\r;\n\nend\t\n\r ", 0, -1);
    Sheet.good("act a from0until1;mill0must1==1or2<3and level<=4if-1!=1;any opens(1)*2if 0<in;end");
    Sheet.fault("acta from 0;end", 1, 0);
    Sheet.fault("act afrom 0;end", 1, 10);
    Sheet.fault("act a from 0;en d", 1, 13);
    Sheet.fault("act a from 0;anyopens 1;end", 1, 13);
    Sheet.fault(OPENS + "1 2;end", 1, OPENS.length() + 2);
    Sheet.fault(OPENS + "12;end", 0, -1);
    Sheet.fault(MUST + "1<=2;end", 0, -1);
    Sheet.fault(MUST + "1< =2;end", 1, MUST.length() + 3);
    Sheet.fault(MUST + "1= =2;end", 1, MUST.length() + 1);
    Sheet.fault(MUST + "1! =2;end", 1, MUST.length() + 1);
    Sheet.fault(MUST + "1<==2;end", 1, MUST.length() + 3);
    Sheet.fault(MUST + "1===2;end", 1, MUST.length() + 3);
    Sheet.fault(MUST + "1!==2;end", 1, MUST.length() + 3);
    Sheet.fault(MUST + "1<<2;end", 1, MUST.length() + 2);
    yes("1<=1", "12==12", "1<2");
  }

  private static void names() {
    Sheet.says(II, "NAMES (letters a .. z, 8 at most),");
    String[] good = {"a", "z", "ab", "zzzzzzz", "abcdefgh", "qrstuvwx", "zzzzzzzz"};
    for (String name : good) {
      Sheet.good("act " + name + " from 0;end");
    }
    Sheet.fault("act abcdefghi from 0;end", 1, 4);
    Sheet.fault("act zzzzzzzzz from 0;end", 1, 4);
    Sheet.fault("act " + "a".repeat(1000) + " from 0;end", 1, 4);
    for (int b = 0; b < 256; b++) {
      boolean letter = b >= 'a' && b <= 'z';
      boolean blank = b == 9 || b == 10 || b == 13 || b == 32;
      Sheet.fault("act " + (char) b + " from 0;end", letter ? 0 : 1, letter ? -1 : blank ? 6 : 4);
      Sheet.fault("act q" + (char) b + " from 0;end", letter || blank ? 0 : 1, letter || blank ? -1 : 5);
    }
    // All letters of a name count, and how many they are.
    MillStream x = new MillStream();
    String[] others = {"abcdefgh", "abcdefgi", "bbcdefgh", "abcdefg", "a", "aa", "aaa", "b"};
    for (String name : others) {
      Sheet.fault(x, "act " + name + " from 0;end", 0, -1);
    }
    for (String name : others) {
      Sheet.fault(x, "act " + name + " from 0;end", 3, 4);
    }
  }

  private static void ints() {
    Sheet.says(II, "INTS (1 to 4 digits),");
    String[] good = {"0", "9", "10", "99", "100", "999", "1000", "9999", "0000", "0001"};
    for (String v : good) {
      Sheet.good("act a from " + v + ";end");
    }
    String[] bad = {"10000", "00000", "12345", "99999", "4294967296", "1".repeat(100)};
    for (String v : bad) {
      Sheet.fault("act a from " + v + ";end", 1, 11);
      Sheet.fault(OPENS + v + ";end", 1, OPENS.length());
    }
    Sheet.fault("act a from ;end", 1, 11);
    Sheet.fault("act a from /;end", 1, 11);
    Sheet.fault("act a from :;end", 1, 11);
    Sheet.fault("act a from x;end", 1, 11);
    yes("0007==7", "0120==120", "9999==99*101", "1234==1*1000+2*100+3*10+4", "9876==9*1000+8*100+7*10+6", "0==00");
  }

  private static void signs() {
    Sheet.says(II, "SIGNS ; : ( ) + - * == != < <= .");
    Sheet.good(MUST + "(1+2)-3*4==5;any must 1!=2;any must 3<4;any must 5<=6;end");
    String[] signs = {";", ":", "(", ")", "+", "-", "*", "==", "!=", "<", "<="};
    String[] none = {".", ",", ">", ">=", "=", "!", "/", "%", "&", "|", "[", "]", "{", "}", "#", "'", "\"", "_", "A", "Z", "~", "\u0080"};
    // Where a sum goes on: with which of them it does.
    for (String s : signs) {
      boolean goesOn = s.equals("+") || s.equals("-") || s.equals("*");
      boolean ends = s.equals(";");
      int behind = OPENS.length() + 1 + s.length();
      int place = goesOn ? -1 : ends ? behind : OPENS.length() + 1;
      Sheet.fault(OPENS + "1" + s + "1;end", goesOn ? 0 : 1, place);
    }
    for (String s : none) {
      Sheet.fault(OPENS + "1" + s + "1;end", 1, OPENS.length() + 1);
    }
    // A colon is a sign, but no text goes on with it anywhere.
    String[] text = ("act a from 0 until 1 ; mill 0 must - ( level + 2 ) * 3 == 4 and 5 != 6 or 7 < 8 if 9 <= in ; any opens 1 ; end act b"
        + " from 0 ; end").split(" ");
    Sheet.good(String.join(" ", text));
    StringBuilder ahead = new StringBuilder();
    for (String token : text) {
      Sheet.fault(ahead + ":", 1, ahead.length());
      Sheet.fault(ahead + ": " + token + " ;", 1, ahead.length());
      ahead.append(token).append(' ');
    }
    Sheet.fault(ahead + ":", 1, ahead.length());

    Sheet.says(II, "A longer one, all else, is no TOKEN.");
    Sheet.fault("act abcdefghi from 0;end", 1, 4);
    Sheet.fault("abcdefghi", 1, 0);
    Sheet.fault("act a from 0;endendend", 1, 13);
    Sheet.fault("act a from 12345;end", 1, 11);
    Sheet.fault("act a from 0;end 12345", 1, 17);
    Sheet.fault("  #", 1, 2);
    Sheet.fault("act a from 0;end\0", 1, 16);
    Sheet.fault("act a from 0;end\u00ff", 1, 16);
    Sheet.fault(MUST + "1=2;end", 1, MUST.length() + 1);
    Sheet.fault(MUST + "1!2;end", 1, MUST.length() + 1);
    Sheet.fault(MUST + "1==2 !", 1, MUST.length() + 5);
    Sheet.fault(MUST + "1==2=", 1, MUST.length() + 4);
  }

  private static void texts() {
    Sheet.says(II, "text: {'act' NAME 'from' INT ['until' INT] ';' {RULE} 'end'}.");
    Sheet.good("");
    Sheet.good("   ");
    Sheet.good("act a from 0;end");
    Sheet.good("act a from 0 until 1;end");
    Sheet.good("act a from 0;end act b from 0;end act c from 0 until 5;" + rules(2) + "end");
    Sheet.good(HEAD + rules(1) + "end");
    String[] act = {"act", "a", "from", "0", "until", "1", ";", "end"};
    // Each beginning of it, but for nothing and all, lacks what comes next; and none goes on with ')'.
    String text = "";
    for (int i = 1; i < act.length; i++) {
      text = text + act[i - 1] + " ";
      Sheet.fault(text, 1, text.length());
      Sheet.fault(text + ")", 1, text.length());
    }
    Sheet.fault(")", 1, 0);
    Sheet.fault("a from 0;end", 1, 0);
    Sheet.fault("act from 0;end", 1, 4);
    Sheet.fault("act a 0;end", 1, 6);
    Sheet.fault("act a from;end", 1, 10);
    Sheet.fault("act a until 1;end", 1, 6);
    Sheet.fault("act a from 0 until;end", 1, 18);
    Sheet.fault("act a from 0 1;end", 1, 13);
    Sheet.fault("act a from 0 until 1 until 2;end", 1, 21);
    Sheet.fault("act a from 0 end", 1, 13);
    Sheet.fault("act a from 0;;end", 1, 13);
    Sheet.fault("act a from 0;end;", 1, 16);
    Sheet.fault("act a from 0;end end", 1, 17);
    Sheet.fault("act a from 0;end any opens 1;", 1, 17);
    Sheet.fault("act a from 0;act b from 0;end end", 1, 13);
    Sheet.fault("act a b from 0;end", 1, 6);
    Sheet.fault("act a from -1;end", 1, 11);
  }

  private static void ruleForms() {
    Sheet.says(II, "RULE: WHO 'must' COND ['if' COND] ';' | WHO 'opens' E ['if' COND] ';'.");
    Sheet.good(HEAD + "any must 1<2;end");
    Sheet.good(HEAD + "any must 1<2 if 3<4;end");
    Sheet.good(HEAD + "any opens 1;end");
    Sheet.good(HEAD + "any opens 1 if 3<4;end");
    Sheet.fault(HEAD + "any must;end", 1, 21);
    Sheet.fault(HEAD + "any must 1;end", 1, 23);
    Sheet.fault(HEAD + "any must if 1<2;end", 1, 22);
    Sheet.fault(HEAD + "any must 1<2 if;end", 1, 28);
    Sheet.fault(HEAD + "any must 1<2 if 3;end", 1, 30);
    Sheet.fault(HEAD + "any must 1<2 if 3<4 if 5<6;end", 1, 33);
    Sheet.fault(HEAD + "any must 1<2 end", 1, 26);
    Sheet.fault(HEAD + "any must 1<2", 1, 25);
    Sheet.fault(HEAD + "any must 1<2 any must 1<2;end", 1, 26);
    Sheet.fault(HEAD + "any opens;end", 1, 22);
    Sheet.fault(HEAD + "any opens 1<2;end", 1, 24);
    Sheet.fault(HEAD + "any opens 1 if 3;end", 1, 29);
    Sheet.fault(HEAD + "any opens 1 if;end", 1, 27);
    Sheet.fault(HEAD + "any opens 1 if 3<4 if 5<6;end", 1, 32);
    Sheet.fault(HEAD + "any opens 1 or 2;end", 1, 25);
    Sheet.fault(HEAD + "any opens 1 end", 1, 25);
    Sheet.fault(HEAD + "any;end", 1, 16);
    Sheet.fault(HEAD + "any 1<2;end", 1, 17);
    Sheet.fault(HEAD + "any must opens 1;end", 1, 22);
    Sheet.fault(HEAD + "must 1<2;end", 1, 13);

    Sheet.says(II, "WHO: 'mill' INT | 'any'.");
    Sheet.good(HEAD + "mill 0 opens 1;mill 6 opens 1;mill 0003 opens 1;any opens 1;end");
    Sheet.fault(HEAD + "mill opens 1;end", 1, 18);
    Sheet.fault(HEAD + "mill a opens 1;end", 1, 18);
    Sheet.fault(HEAD + "mill -1 opens 1;end", 1, 18);
    Sheet.fault(HEAD + "mill 0 1 opens 1;end", 1, 20);
    Sheet.fault(HEAD + "mill 0 any opens 1;end", 1, 20);
    Sheet.fault(HEAD + "any 0 opens 1;end", 1, 17);
    Sheet.fault(HEAD + "any any opens 1;end", 1, 17);
    Sheet.fault(HEAD + "0 opens 1;end", 1, 13);
  }

  private static void conditions() {
    Sheet.says(II, "COND: ALL {'or' ALL}.");
    yes("1==1 or 1==2", "1==2 or 1==1", "1==2 or 1==3 or 1==1", "1==1 or 1==2 and 1==3", "1==2 and 1==3 or 1==1",
        "1==2 and 1==1 or 1==1 and 2==2", "1==1 and 2==2 or 1==2 and 1==1 or 1==3");
    no("1==2 or 1==3", "1==2 or 1==3 or 1==4", "1==2 and 1==1 or 1==3", "1==3 or 1==1 and 1==2");
    int at = MUST.length();
    Sheet.fault(MUST + "or 1==1;end", 1, at);
    Sheet.fault(MUST + "1==1 or;end", 1, at + 7);
    Sheet.fault(MUST + "1==1 or or 1==1;end", 1, at + 8);
    Sheet.fault(MUST + "1 or 1==1;end", 1, at + 2);
    Sheet.fault(MUST + "(1==1) or 1==1;end", 1, at + 2);

    Sheet.says(II, "ALL: REL {'and' REL}.");
    yes("1==1 and 2==2", "1==1 and 2==2 and 3==3");
    yes("1==1 and 1<2", "1<2 and 1<=1", "1<=2 and 1!=2", "1!=2 and 1==1", "1<2 and 2<3 and 1!=3 and 4<=4 and 5==5");
    no("1==2 and 2==2", "1==1 and 2==3", "1==1 and 2==2 and 3==4", "1==2 and 1==3");
    Sheet.fault(MUST + "and 1==1;end", 1, at);
    Sheet.fault(MUST + "1==1 and;end", 1, at + 8);
    Sheet.fault(MUST + "1==1 and or 1==1;end", 1, at + 9);
    Sheet.fault(MUST + "1 and 1==1;end", 1, at + 2);

    Sheet.says(II, "REL: E ('==' | '!=' | '<' | '<=') E.");
    yes("5==5", "5!=4", "5!=6", "4<5", "5<=5", "4<=5", "-5<-4", "-1<0", "1+1==2", "2==1+1");
    no("5==4", "5==6", "5!=5", "5<5", "6<5", "6<=5", "-4<-5", "0<-1", "0<=-1");
    Sheet.fault(MUST + "1<2<3;end", 1, at + 3);
    Sheet.fault(MUST + "1==2==3;end", 1, at + 4);
    Sheet.fault(MUST + "<2;end", 1, at);
    Sheet.fault(MUST + "1<;end", 1, at + 2);
    Sheet.fault(MUST + "1 2;end", 1, at + 2);
    Sheet.fault(MUST + "1:2;end", 1, at + 1);
  }

  private static void sums() {
    int at = OPENS.length();
    Sheet.says(II, "E: ['-'] PART {('+' | '-') PART}.");
    yes("9-3-2==4", "9-3+2==8", "-2+5==3", "-2*3+10==4", "-2-3==0-5", "-(2-3)==1", "1-(-1)==2", "-1*(-1)==1", "-5+5==0", "-0==0",
        "10-2*3==4");
    no("9-3-2==8", "-2+5==0-7", "-2*3+10==0-16");
    Sheet.fault(OPENS + "--1;end", 1, at + 1);
    Sheet.fault(OPENS + "+1;end", 1, at);
    Sheet.fault(OPENS + "1+-1;end", 1, at + 2);
    Sheet.fault(OPENS + "1--1;end", 1, at + 2);
    Sheet.fault(OPENS + "1+;end", 1, at + 2);
    Sheet.fault(OPENS + "1-;end", 1, at + 2);
    Sheet.fault(OPENS + "-;end", 1, at + 1);
    Sheet.fault(OPENS + "(--1);end", 1, at + 2);
    Sheet.good(OPENS + "(-1);end");

    Sheet.says(II, "PART: UNIT {'*' UNIT}.");
    yes("2*3==6", "2*3*4==24", "1+2*3==7", "2*3+1==7", "2*3-4*5==0-14", "2*(1+2)*3==18", "0*9999==0");
    no("1+2*3==9");
    Sheet.fault(OPENS + "*1;end", 1, at);
    Sheet.fault(OPENS + "1*;end", 1, at + 2);
    Sheet.fault(OPENS + "1**1;end", 1, at + 2);
    Sheet.fault(OPENS + "1*-1;end", 1, at + 2);

    Sheet.says(II, "UNIT: INT | VAR | '(' E ')'.");
    yes("(1)==1", "((1))==1", "(1+2)*(3+4)==21", "2*(3+4*(5+6*(7+8)))==766", "cap==100", "(cap)==100", "(cap-1)*2==198");
    Sheet.fault(OPENS + "();end", 1, at + 1);
    Sheet.fault(OPENS + "(1;end", 1, at + 2);
    Sheet.fault(OPENS + "1);end", 1, at + 1);
    Sheet.fault(OPENS + "(1));end", 1, at + 3);
    Sheet.fault(OPENS + "(1<2);end", 1, at + 2);
    Sheet.fault(OPENS + "(1)(2);end", 1, at + 3);
    Sheet.fault(OPENS + "2(1);end", 1, at + 1);
    Sheet.fault(OPENS + "a;end", 1, at);
    Sheet.fault(OPENS + ";end", 1, at);
  }

  private static void words() {
    Sheet.says(II, "VAR: 'level' | 'mark' | 'cap' | 'below' | 'above' | 'in' | 'wheel' | 'gate' | 'hour' | 'day' | 'work' | 'out'.");
    for (String v : VARS) {
      Sheet.good(OPENS + v + ";end");
      Sheet.good(MUST + v + "==" + v + ";end");
      Sheet.fault(OPENS + v + "s;end", 1, OPENS.length());
      Sheet.fault(OPENS + v.substring(1) + ";end", 1, OPENS.length());
    }
    for (String w : OTHER_WORDS) {
      Sheet.fault(OPENS + w + ";end", 1, OPENS.length());
    }
    Sheet.fault(OPENS + "head;end", 1, OPENS.length());

    Sheet.says(II, "(All words in quotes are no NAMES.)");
    for (String w : VARS) {
      Sheet.fault("act " + w + " from 0;end", 1, 4);
    }
    for (String w : OTHER_WORDS) {
      Sheet.fault("act " + w + " from 0;end", 1, 4);
    }
    String[] near = {"ac", "acts", "fro", "froms", "untils", "unti", "en", "ends", "musts", "mus", "i", "ifs", "open", "openss", "mil",
      "mills", "an", "anys", "o", "ors", "ands", "levels", "leve", "marks", "caps", "ins", "wheels", "gates", "hours", "days", "works",
      "outs", "text", "rule", "spring", "sea"};
    for (String w : near) {
      Sheet.good("act " + w + " from 0;end");
    }
  }

  private static String force(String days) {
    MillStream x = one();
    Sheet.due("read() of " + days, Sheet.take(x, "act a " + days + ";any must 1==2;any opens 4;end"), 0);
    StringBuilder all = new StringBuilder();
    for (int day = 0; day < 10; day++) {
      boolean in = x.broken(24 * day, 0, 0) == 0;
      Sheet.due("the last hour of day " + day + ", " + days, x.broken(24 * day + 23, 0, 0), in ? 0 : -1);
      Sheet.due("the gate on day " + day + ", " + days, x.at(24 * day, 0, 0, 3), in ? 4 : 0);
      Sheet.due("the gate at the end of day " + day + ", " + days, x.at(24 * day + 23, 0, 0, 3), in ? 4 : 0);
      all.append(in ? (char) ('0' + day) : '.');
    }
    return all.toString();
  }

  private static void days() {
    Sheet.says(II, "An ACT is in force on the DAYS from .. until (not with; none: for ever).");
    Sheet.due("from 0", force("from 0"), "0123456789");
    Sheet.due("from 3", force("from 3"), "...3456789");
    Sheet.due("from 9", force("from 9"), ".........9");
    Sheet.due("from 10", force("from 10"), "..........");
    Sheet.due("from 9999", force("from 9999"), "..........");
    Sheet.due("from 0 until 1", force("from 0 until 1"), "0.........");
    Sheet.due("from 3 until 4", force("from 3 until 4"), "...3......");
    Sheet.due("from 3 until 6", force("from 3 until 6"), "...345....");
    Sheet.due("from 8 until 9", force("from 8 until 9"), "........8.");
    Sheet.due("from 8 until 10", force("from 8 until 10"), "........89");
    Sheet.due("from 0 until 9999", force("from 0 until 9999"), "0123456789");
    // Each rule goes by its own act.
    MillStream x = one();
    Sheet.take(x, "act a from 1 until 2;any must 1==2;end act b from 0 until 1;any must 1==3;end act c from 2;any must 1==4;end");
    Sheet.due("day 0", Sheet.broken(x, 0), "1");
    Sheet.due("day 1", Sheet.broken(x, 24), "0");
    Sheet.due("day 2", Sheet.broken(x, 48), "2");
  }

  private static void whose() {
    Sheet.says(II, "RULES are numbered from 0 on.");
    MillStream x = one();
    Sheet.take(x, "act a from 0;any must 1==2;any opens 1;any must 1==3;end act b from 0;any must 1==4;end");
    Sheet.due("of one text", Sheet.broken(x, 0), "0 2 3");
    Sheet.take(x, "act c from 0;any must 1==5;" + rules(24) + "any must 1==6;end");
    Sheet.due("of two", Sheet.broken(x, 0), "0 2 3 4 29");

    Sheet.says(II, "A RULE is for the MILL told, or for each.");
    MillStream y = new MillStream();
    for (int m = 0; m < 7; m++) {
      y.mill(10, 0, 4, 9);
    }
    Sheet.take(y, "act a from 0;mill 0 must 1==2;any must 1==3;mill 6 must 1==4;mill 3 opens 5;any opens 2;end");
    Sheet.due("what is broken", Sheet.broken(y, 0), "0 1 101 201 301 401 501 601 602");
    for (int m = 0; m < 7; m++) {
      Sheet.due("the gate of mill " + m, y.at(0, m, 0, 3), m == 3 ? 5 : 2);
    }
    MillStream z = one();
    Sheet.take(z, "act a from 0;mill 1 must 1==2;mill 1 opens 3;end");
    Sheet.due("for a mill that there is not", Sheet.broken(z, 0), "");
    z.mill(10, 0, 4, 9);
    Sheet.due("once it is there", Sheet.broken(z, 0), "100");
  }

  /** Three mills; in hour 27 all vars are other ones, as far as they can be. */
  private static MillStream three() {
    MillStream x = new MillStream();
    x.mill(100, 11, 2, 5);
    x.mill(200, 22, 3, 6);
    x.mill(300, 33, 4, 7);
    x.spring(9);
    x.factor(0, 2);
    x.order(0, false, 1);
    x.order(1, false, 2);
    x.order(1, true, 1);
    x.order(2, true, 1);
    x.rain(26, 0, 40);
    x.rain(26, 1, 50);
    x.rain(27, 2, 60);
    return x;
  }

  /** A var of a mill in hour 27: as a must of it is told what at() answers. */
  private static void isMust(String var, int m, int value) {
    MillStream x = three();
    String sum = value < 0 ? "0-" + -value : "" + value;
    Sheet.due("read()", Sheet.take(x, "act a from 0;mill " + m + " must " + var + "==" + sum + ";mill " + m + " must " + var + "!=" + sum + ";end"), 0);
    Sheet.due(var + " of mill " + m + " in a must", Sheet.broken(x, 27), "" + (100 * m + 1));
  }

  /** The same in an 'opens', by which a gate is 3 that else is 1 or less. */
  private static void isOpens(String var, int m, int value) {
    MillStream x = three();
    Sheet.due("read()", Sheet.take(x, "act a from 1;mill " + m + " opens 3 if " + var + "==" + value + " and hour==3;end"), 0);
    Sheet.due(var + " of mill " + m + " in an opens", x.at(27, m, 3, 3), 3);
    MillStream y = three();
    Sheet.take(y, "act a from 1;mill " + m + " opens 3+" + var + "-" + value + " if hour==3;end");
    Sheet.due(var + " of mill " + m + " in what it opens to", y.at(27, m, 3, 3), 3);
  }

  private static void vars() {
    int h = 27;
    MillStream x = three();
    Sheet.says(II, "VARS are of that MILL in that HOUR: LEVEL at its beginning,");
    for (int m = 0; m < 3; m++) {
      isMust("level", m, x.at(h, m, 3, 0));
      isOpens("level", m, x.at(h, m, 3, 0));
      isMust("mark", m, 11 * (m + 1));
      isOpens("mark", m, 11 * (m + 1));
      isMust("cap", m, 100 * (m + 1));
      isOpens("cap", m, 100 * (m + 1));
    }
    Sheet.due("the level is not what it is at the end", x.at(h, 2, 3, 0) != x.at(h + 1, 2, 3, 0), true);

    Sheet.says(II, "below, above: of the next, the MILL ahead (0 without one);");
    for (int m = 0; m < 3; m++) {
      int below = m < 2 ? x.at(h, m + 1, 3, 0) : 0;
      int above = m > 0 ? x.at(h, m - 1, 3, 0) : 0;
      isMust("below", m, below);
      isOpens("below", m, below);
      isMust("above", m, above);
      isOpens("above", m, above);
    }

    Sheet.says(II, "wheel, gate as they were set (in 'opens' the GATE by ORDERS);");
    for (int m = 0; m < 3; m++) {
      isMust("wheel", m, x.at(h, m, 3, 2));
      isOpens("wheel", m, x.at(h, m, 3, 2));
      isMust("gate", m, x.at(h, m, 3, 3));
      isOpens("gate", m, x.at(h, m, 3, 3));
    }
    // An 'opens' is not told what another one opened, but a must is.
    MillStream y = one();
    y.order(0, true, 1);
    Sheet.take(y, "act a from 0;any opens 3;any opens gate+4;any opens 9 if gate!=1;any must gate==5;any must gate!=5;end");
    Sheet.due("the gate", y.at(0, 0, 0, 3), 5);
    Sheet.due("what is broken", Sheet.broken(y, 0), "4");
  }

  private static void otherVars() {
    int h = 27;
    MillStream x = three();
    Sheet.says(II, "hour, day;");
    for (int m = 0; m < 3; m++) {
      isMust("hour", m, 3);
      isOpens("hour", m, 3);
      isMust("day", m, 1);
      isOpens("day", m, 1);
    }

    Sheet.says(II, "in, work, out (in 'opens': 0 for work, out).");
    for (int m = 0; m < 3; m++) {
      isMust("in", m, x.at(h, m, 3, 1));
      isOpens("in", m, x.at(h, m, 3, 1));
      isMust("work", m, x.at(h, m, 3, 6));
      isOpens("work", m, 0);
      isMust("out", m, x.at(h, m, 3, 9));
      isOpens("out", m, 0);
    }
    Sheet.due("mill 0 has work then", x.at(h, 0, 3, 6), 4);
    Sheet.due("mill 1 lets out then", x.at(h, 1, 3, 9), 7);
    // A must's own 'if' is told what an 'opens' is not.
    MillStream y = one();
    y.spring(8);
    y.order(0, true, 1);
    Sheet.take(y, "act a from 0;any opens 9 if 0<out;any must 1==2 if out==3;any must 1==2 if out==0;end");
    Sheet.due("the gate", y.at(0, 0, 0, 3), 1);
    Sheet.due("what is broken", Sheet.broken(y, 0), "1");
    Sheet.due("the gate, asked behind it", y.at(0, 0, 0, 3), 1);
    // Hour by hour: no must of an hour is told to an 'opens' of the next.
    MillStream z = one();
    z.spring(8);
    z.order(0, false, 1);
    z.order(0, true, 1);
    Sheet.take(z, "act a from 0;any opens 7 if work!=0;any opens 9 if out!=0;any must gate==1;end");
    Sheet.due("the work of hour 5", z.at(5, 0, 0, 6), 2);
    Sheet.due("what is let out in hour 5", z.at(5, 0, 0, 9), 5);
    Sheet.due("the first hour in which the gate is another", z.first(0, 240, 0), -1);
    Sheet.due("the gate behind it", z.at(5, 0, 0, 3), 1);
    // Some water must stay for a head, behind the gate's 3; and the gate takes 1 of it in the next hour.
    Sheet.due("plan(0, 3, 2)", z.plan(0, 3, 2), 4);
    Sheet.planned(z, 2, 4, 4);
  }

  /** A sum whose value is that of an int. */
  private static String sumOf(int v) {
    return "((" + (v >>> 24) + "*4096+" + (v >>> 12 & 4095) + ")*4096+" + (v & 4095) + ")";
  }

  private static void wrap() {
    Sheet.says(II, "Ints of 32 bits that wrap.");
    String most = sumOf(Integer.MAX_VALUE);
    String least = sumOf(Integer.MIN_VALUE);
    yes("0<" + most, least + "<0", most + "+1<0", most + "+1==" + least, least + "-1==" + most, "0<" + least + "-1", "-" + least + "==" + least,
        "-" + least + "<0", most + "+" + most + "==-2", most + "*2==0-2", most + "*" + most + "==1", least + "*2==0", least + "*3==" + least,
        "4096*4096*256==0", "4096*4096*128<0", "4096*4096*256+7==7", "9999*9999*9999==" + sumOf((int) (9999L * 9999 * 9999)),
        "9999*9999*9999*9999==" + sumOf((int) (99980001L * 99980001)), "-" + most + "-2==" + most, most + "!=" + least,
        "-1==" + sumOf(-1), sumOf(-1) + "<0");
    no(most + "<" + most + "+1", least + "-1<" + least, "0<4096*4096*128", "0<=" + sumOf(-1));
    Sheet.due("opens, all round to 5", opened(most + "+1+" + most + "+1+5"), 5);
    Sheet.due("opens, wrapped below 0", opened(most + "+1"), 0);
    Sheet.due("opens, wrapped above 0", opened(least + "-1"), 9);
    Sheet.due("opens, the most", opened(most), 9);
    Sheet.due("opens, the least", opened(least), 0);
    Sheet.due("opens, a product that wraps to 4", opened("4096*4096*256+4"), 4);
  }

  private static void firstFault() {
    Sheet.says(II, "FAULTS, the first by its place (a byte; the text's end: its length),");
    Sheet.fault("# #", 1, 0);
    Sheet.fault("  # #", 1, 2);
    Sheet.fault("act a from 0;end", 0, -1);
    Sheet.fault("act a from 0;", 1, 13);
    Sheet.fault("act a from 0;  ", 1, 15);
    Sheet.fault("act", 1, 3);
    Sheet.fault("act\n", 1, 4);
    // Syntax ahead of room, room ahead of syntax.
    Sheet.fault(OPENS + "(((((((((1;end", 2, OPENS.length() + 8);
    Sheet.fault(OPENS + "1 1 (((((((((1;end", 1, OPENS.length() + 2);
    Sheet.fault(HEAD + rules(31) + "#", 2, 13 + 12 * 30);
    Sheet.fault(HEAD + "#" + rules(31), 1, 13);
    Sheet.fault(HEAD + rules(30) + "any opens (((((((((1", 2, 13 + 12 * 30);
    Sheet.fault(HEAD + rules(29) + "any opens (((((((((1;any", 2, 13 + 12 * 29 + 10 + 8);

    Sheet.says(II, "of one place the least:");
    String full = OPENS + "1" + "+1".repeat(295) + ";end";
    Sheet.fault(full + " act", 2, full.length() + 1);
    Sheet.fault(full + " end", 1, full.length() + 1);
    Sheet.fault(full + " #", 1, full.length() + 1);
    Sheet.fault(full + " 12345", 1, full.length() + 1);
    Sheet.fault(full + " :", 1, full.length() + 1);
    String longer = OPENS + "1" + "+1".repeat(296);
    Sheet.fault(longer + ";end", 2, longer.length());
    Sheet.fault(longer + "1" + ";end", 2, longer.length() + 1);
    Sheet.fault(longer + ")", 1, longer.length());
    Sheet.fault(longer + "<", 1, longer.length());
    Sheet.fault(longer, 1, longer.length());
    Sheet.fault(OPENS + "((((((((1(", 1, OPENS.length() + 9);
    Sheet.fault(HEAD + rules(30) + "mus", 1, 13 + 360);
    MillStream x = new MillStream();
    Sheet.fault(x, acts(0, 10), 0, -1);
    Sheet.fault(x, "act", 2, 0);
    Sheet.fault(x, "acts", 1, 0);
    Sheet.fault(x, "end", 1, 0);
    MillStream y = new MillStream();
    Sheet.fault(y, acts(0, 9) + "act z from 0; act", 1, 9 * 17 + 14);
  }

  /** Acts without rules, 17 bytes each, their names one letter from a on. */
  private static String acts(int first, int behind) {
    StringBuilder all = new StringBuilder();
    for (int i = first; i < behind; i++) {
      all.append("act ").append((char) ('a' + i)).append(" from 0;end ");
    }
    return all.toString();
  }

  private static void syntax() {
    Sheet.says(II, "1 SYNTAX: a TOKEN, or what is none, with which no text goes on.");
    // What follows could itself be gone on with: the fault is where no text goes on, not where one ends.
    Sheet.fault("act a from end", 1, 11);
    Sheet.fault("act a from 0 until end", 1, 19);
    Sheet.fault("act a from 0 any opens 1;end", 1, 13);
    Sheet.fault(HEAD + "mill end", 1, 18);
    Sheet.fault(HEAD + "any end", 1, 17);
    Sheet.fault(OPENS + "end", 1, OPENS.length());
    Sheet.fault(OPENS + "1 end", 1, OPENS.length() + 2);
    Sheet.fault(OPENS + "1 if end", 1, OPENS.length() + 5);
    Sheet.fault(OPENS + "(1 end", 1, OPENS.length() + 3);
    Sheet.fault(MUST + "1== end", 1, MUST.length() + 4);
    Sheet.fault(MUST + "1<2 and end", 1, MUST.length() + 8);
    // A bracket that could be one of a condition is one of a sum; it is the sign within it that does not fit.
    Sheet.fault(MUST + "(1<2)", 1, MUST.length() + 2);
    Sheet.fault(MUST + "(1)", 1, MUST.length() + 3);
    Sheet.fault(MUST + "1+1", 1, MUST.length() + 3);
    // A rule's faults of other kinds do not matter for it.
    Sheet.fault(HEAD + "mill 9999 opens 1;end #", 1, 13 + 18 + 4);
    Sheet.fault("act a from 5 until 5", 1, 20);
  }

  private static void tokens() {
    Sheet.says(II, "2 ROOM: a 601st TOKEN;");
    // Eight tokens up to the first 1, 590 of the sum, and two: 600.
    String sum = OPENS + "1" + "+1".repeat(295);
    Sheet.fault(sum + ";end", 0, -1);
    Sheet.fault(sum + ";end  \n", 0, -1);
    Sheet.fault(sum + "*1;end", 2, sum.length() + 2);
    Sheet.fault(sum + "+1;end", 2, sum.length() + 2);
    Sheet.fault(sum + "+1+1+1;end", 2, sum.length() + 2);
    Sheet.fault(sum + ";end act b from 0;end", 2, sum.length() + 5);
    Sheet.fault(sum + " if 1<2;end", 2, sum.length() + 5);
    // Each kind of token may be the 601st.
    String must = MUST + "1" + "+1".repeat(295);
    Sheet.fault(must + "+1<2;end", 2, must.length() + 2);
    Sheet.fault(must + "+1", 1, must.length() + 2);
    String[] last = {"level", "(", "77", "out"};
    for (String t : last) {
      Sheet.fault(must + "<=-" + t, 2, must.length() + 3);
      Sheet.fault(must + "==" + t + " ", 1, must.length() + 2 + t.length() + 1);
    }
    Sheet.fault(must + "+1-", 2, must.length() + 2);
    String mill = HEAD + "mill 0 must 1" + "+1".repeat(295);
    Sheet.fault(mill + "==-1;end", 2, mill.length() + 2);
    Sheet.fault(mill + "==(1);end", 2, mill.length() + 2);
    Sheet.fault(mill + "==1;end", 2, mill.length() + 2);
    Sheet.fault(mill + "*-1;end", 1, mill.length() + 1);
    Sheet.fault(must + "+1==", 2, must.length() + 2);
    Sheet.fault(must + "<1 if", 2, must.length() + 3);
    Sheet.fault(must + "<1 and", 2, must.length() + 3);
    Sheet.fault(must + "<1 or", 2, must.length() + 3);
    Sheet.fault(must + "<1;", 2, must.length() + 2);
    String rules = HEAD + "mill 0 opens 1" + "+1".repeat(290) + ";";
    // 5 + 4 + 580 + 1 tokens, and rules of 4.
    Sheet.fault(rules + "any opens 1;any opens 1;end", 0, -1);
    Sheet.fault(rules + "any opens 1;any opens 1;any opens 1;end", 2, rules.length() + 34);
    Sheet.fault(rules + "any opens 1;any opens 1*1;end", 2, rules.length() + 26);
    Sheet.fault(rules + "any opens 1;any opens 1*1;any", 2, rules.length() + 26);
    Sheet.fault(rules + "any opens 1;any opens 1*1;mill", 2, rules.length() + 26);
    // What there is already does not count for it.
    MillStream x = new MillStream();
    Sheet.fault(x, sum + ";end", 0, -1);
    Sheet.fault(x, "act b" + sum.substring(5) + ";end", 0, -1);
    Sheet.due("count(5)", x.count(5), 2);
  }

  private static void actsAndRules() {
    Sheet.says(II, "an 11th ACT (at 'act'),");
    Sheet.fault(acts(0, 10), 0, -1);
    Sheet.fault(acts(0, 11), 2, 170);
    Sheet.fault(acts(0, 10) + "   act", 2, 173);
    Sheet.fault(acts(0, 10) + "act act", 2, 170);
    Sheet.fault(acts(0, 20), 2, 170);

    Sheet.says(II, "a 31st RULE (at its first TOKEN),");
    Sheet.fault(HEAD + rules(30) + "end", 0, -1);
    Sheet.fault(HEAD + rules(31) + "end", 2, 13 + 12 * 30);
    Sheet.fault(HEAD + rules(30) + "  mill 0 opens 1;end", 2, 13 + 12 * 30 + 2);
    Sheet.fault(HEAD + rules(30) + "any", 2, 13 + 12 * 30);
    Sheet.fault(HEAD + rules(15) + "end act b from 0;" + rules(15) + "end", 0, -1);
    Sheet.fault(HEAD + rules(15) + "end act b from 0;" + rules(16) + "end", 2, 13 + 17 + 12 * 30);
    Sheet.fault(HEAD + "any must 1==1;".repeat(31) + "end", 2, 13 + 14 * 30);

    Sheet.says(II, "both with those that there are;");
    MillStream x = new MillStream();
    Sheet.fault(x, acts(0, 4), 0, -1);
    Sheet.fault(x, acts(4, 11), 2, 17 * 6);
    Sheet.due("count(4)", x.count(4), 4);
    Sheet.fault(x, acts(4, 10), 0, -1);
    Sheet.due("count(4)", x.count(4), 10);
    Sheet.fault(x, "  act z from 0;end", 2, 2);
    Sheet.fault(x, "", 0, -1);
    MillStream y = new MillStream();
    Sheet.fault(y, "act a from 0;" + rules(20) + "end", 0, -1);
    Sheet.fault(y, "act b from 0;" + rules(11) + "end", 2, 13 + 12 * 10);
    Sheet.due("count(5)", y.count(5), 20);
    Sheet.fault(y, "act b from 0;" + rules(10) + "end", 0, -1);
    Sheet.due("count(5)", y.count(5), 30);
    Sheet.fault(y, "act c from 0;any opens 1;end", 2, 13);
    Sheet.fault(y, "act c from 0;end", 0, -1);
    Sheet.due("count(4)", y.count(4), 3);
  }

  private static void brackets() {
    Sheet.says(II, "a 9th ( within one another (at it).");
    String eight = "((((((((1))))))))";
    Sheet.good(OPENS + eight + ";end");
    Sheet.good(OPENS + eight + "*" + eight + "+" + eight + " if " + eight + "<" + eight + " and " + eight + "!=" + eight + ";end");
    Sheet.good(OPENS + "(" + "(1)+".repeat(20) + "1);end");
    Sheet.fault(OPENS + "(" + eight + ");end", 2, OPENS.length() + 8);
    Sheet.fault(OPENS + "1+2*(" + eight + ");end", 2, OPENS.length() + 4 + 8);
    Sheet.fault(OPENS + eight + "+((" + eight + "));end", 2, OPENS.length() + 18 + 8);
    Sheet.fault(OPENS + "((1)*((1)+((1)-((1)+((((1)+(1+(1))))))));end", 2, OPENS.length() + 30);
    Sheet.fault(OPENS + "1 if 1<(-(-(-(-(-(-(-(-(-1)))))))));end", 2, OPENS.length() + 7 + 16);
    Sheet.fault(MUST + "(((((((((", 2, MUST.length() + 8);
    // Behind eight of them only a ninth has no room: all else fits or does not.
    String[] misfits = {")", ";", "*", "+", "==", "end", "a", ":", "#", "12345"};
    for (String t : misfits) {
      Sheet.fault(OPENS + "((((((((" + t, 1, OPENS.length() + 8);
    }
    Sheet.fault(OPENS + "((((((((", 1, OPENS.length() + 8);
    Sheet.good(OPENS + "((((((((-level*2+out))))))));end");
    Sheet.fault(MUST + "1 < 1 + 2 * (((((((( (", 2, MUST.length() + 12 + 9);
    yes(eight + "==1", "-(-(-(-(-(-(-(-1)))))))==1", "1+2*(1+2*(1+2*(1+2*(1+2*(1+2*(1+2*(1+2*(3))))))))==1023");
  }

  private static void likewise() {
    Sheet.says(II, "If there is none, likewise:");
    MillStream x = new MillStream();
    Sheet.fault(x, "act a from 0;end", 0, -1);
    // Syntax and room first, wherever they are.
    Sheet.fault(x, "act a from 0;end #", 1, 17);
    Sheet.fault(x, "act a from 0;any opens (((((((((1;end", 2, 31);
    Sheet.fault(x, "act b from 0;mill 7 opens 1;end end", 1, 32);
    Sheet.fault(x, "act b from 0;mill 7 opens (((((((((1;end", 2, 34);
    Sheet.fault(x, "act b from 3 until 3;", 1, 21);
    Sheet.fault(x, "act b from 3 until 3;any opens (((((((((1;end", 2, 39);
    // Then the first of the others by its place.
    Sheet.fault(x, "act a from 0;mill 7 opens 1;end", 3, 4);
    Sheet.fault(x, "act b from 0;mill 7 opens 1;end act a from 0;end", 5, 18);
    Sheet.fault(x, "act b from 3 until 3;mill 7 opens 1;end", 5, 19);
    Sheet.fault(x, "act b from 3 until 4;mill 8 opens 1;mill 7 opens 1;end", 5, 26);
    Sheet.fault(x, "act a from 3 until 2;end", 3, 4);
    Sheet.due("count(4)", x.count(4), 1);
  }

  private static void twice() {
    Sheet.says(II, "3 TWICE: an ACT's NAME that there is already.");
    MillStream x = new MillStream();
    Sheet.fault(x, "act abcdefgh from 0;end", 0, -1);
    Sheet.fault(x, "act abcdefgh from 5;end", 3, 4);
    Sheet.fault(x, "act b from 0;end act c from 0;end act abcdefgh from 0;end", 3, 38);
    Sheet.fault(x, "act b from 0;end act b from 0;end", 3, 21);
    Sheet.fault(x, "act b from 0;end", 0, -1);
    Sheet.fault(x, "act b from 0;end", 3, 4);
    Sheet.fault(x, "act abcdefg from 0;end", 0, -1);
    Sheet.fault(x, "act bb from 0;end", 0, -1);
    Sheet.due("count(4)", x.count(4), 4);
    // The last of ten names, too.
    MillStream y = new MillStream();
    Sheet.fault(y, acts(0, 9), 0, -1);
    for (int i = 0; i < 9; i++) {
      Sheet.fault(y, acts(i, i + 1), 3, 4);
    }
    Sheet.fault(y, acts(9, 10), 0, -1);
  }

  private static void wrong() {
    Sheet.says(II, "5 WRONG: at the INT behind mill: above 6;");
    Sheet.good(HEAD + "mill 0 opens 1;mill 6 opens 1;end");
    Sheet.fault(HEAD + "mill 7 opens 1;end", 5, 18);
    Sheet.fault(HEAD + "mill   0007 must 1==1;end", 5, 20);
    Sheet.fault(HEAD + "mill 9999 opens 1;end", 5, 18);
    Sheet.fault(HEAD + "mill 6 opens 1;mill 10 opens 1;end", 5, 33);
    MillStream x = one();
    Sheet.fault(x, HEAD + "mill 6 opens 1;end", 0, -1);
    Sheet.fault(x, "act b from 0;mill 7 opens 1;end", 5, 18);

    Sheet.says(II, "behind until: not above from.");
    Sheet.good("act a from 0 until 1;end");
    Sheet.good("act a from 9998 until 9999;end");
    Sheet.fault("act a from 0 until 0;end", 5, 19);
    Sheet.fault("act a from 3 until 3;end", 5, 19);
    Sheet.fault("act a from 3 until 2;end", 5, 19);
    Sheet.fault("act a from 9999 until 0;end", 5, 22);
    Sheet.fault("act a from 10 until 9;end", 5, 20);
    Sheet.fault("act a from 3 until 4;end act b from 4 until   4;end", 5, 46);
  }

  private static void unchanged() {
    Sheet.says(II, "A text with a FAULT changes nothing.");
    String[] bad = {"act b from 0;any opens 9;any must 1==2;end #", "act b from 0;any opens 9;any must 1==2;end act c from 0;" + rules(28) + "end",
      "act b from 0;any opens 9;any must 1==2;end act a from 0;end", "act b from 0;any opens 9;any must 1==2;mill 7 opens 1;end",
      "act b from 0;any opens 9;any must 1==2;end act c from 2 until 2;end", "act b from 0;any must 1==2;any opens 9"};
    int[] numbers = {1, 2, 3, 5, 5, 1};
    for (int i = 0; i < bad.length; i++) {
      MillStream x = one();
      Sheet.take(x, "act a from 0;any must 1==3;any opens 2;end");
      Sheet.due("read() of " + bad[i], Sheet.take(x, bad[i]), numbers[i]);
      Sheet.due("count(4)", x.count(4), 1);
      Sheet.due("count(5)", x.count(5), 2);
      Sheet.due("the gate", x.at(0, 0, 0, 3), 2);
      Sheet.due("what is broken", Sheet.broken(x, 0), "0");
      Sheet.due("read() of its acts without the fault", Sheet.take(x, "act b from 0;any must 1==2;end act c from 0;any opens 4;end"), 0);
      Sheet.due("the gate then", x.at(0, 0, 0, 3), 4);
      Sheet.due("what is broken then", Sheet.broken(x, 0), "0 2");
    }
    // Nor do many of them.
    MillStream y = one();
    for (int i = 0; i < 40; i++) {
      Sheet.due("read()", Sheet.take(y, "act a from 0;any opens 9;end act b from 0;" + rules(2) + "#"), 1);
    }
    Sheet.due("count(4)", y.count(4), 0);
    Sheet.due("count(5)", y.count(5), 0);
    Sheet.due("the gate", y.at(0, 0, 0, 3), 0);
    Sheet.due("read() of ten acts", Sheet.take(y, acts(0, 10)), 0);
    MillStream z = one();
    for (int i = 0; i < 5; i++) {
      Sheet.due("read() of a long one", Sheet.take(z, OPENS + "9" + "+1".repeat(290) + "#"), 1);
    }
    Sheet.due("read()", Sheet.take(z, "act a from 0;any opens 3;end"), 0);
    Sheet.due("the gate", z.at(0, 0, 0, 3), 3);
  }

  private static String brokenBy(String act) {
    MillStream x = one();
    x.mill(50, 0, 4, 9);
    Sheet.due("read() of " + act, Sheet.take(x, act), 0);
    return Sheet.broken(x, 24);
  }

  private static void broken() {
    Sheet.says(II, "In an HOUR a must is BROKEN by a MILL, if it is for it, its ACT is in force, its 'if' holds (or there is none), and its COND does not.");
    Sheet.due("for each, in force, without 'if'", brokenBy("act a from 1;any must 1==2;end"), "0 100");
    Sheet.due("for one of them", brokenBy("act a from 1;mill 1 must 1==2;end"), "100");
    Sheet.due("for none of them", brokenBy("act a from 1;mill 2 must 1==2;end"), "");
    Sheet.due("not yet in force", brokenBy("act a from 2;any must 1==2;end"), "");
    Sheet.due("no more in force", brokenBy("act a from 0 until 1;any must 1==2;end"), "");
    Sheet.due("its 'if' holds", brokenBy("act a from 1;any must 1==2 if 1==1;end"), "0 100");
    Sheet.due("its 'if' holds for one", brokenBy("act a from 1;any must 1==2 if cap==50;end"), "100");
    Sheet.due("its 'if' does not hold", brokenBy("act a from 1;any must 1==2 if 1==2;end"), "");
    Sheet.due("its condition holds", brokenBy("act a from 1;any must 1==1;end"), "");
    Sheet.due("its condition and its 'if' hold", brokenBy("act a from 1;any must 1==1 if 1==1;end"), "");
    Sheet.due("its condition holds for one", brokenBy("act a from 1;any must cap==50;end"), "0");
    Sheet.due("an 'opens' is not broken", brokenBy("act a from 1;any opens 0;any opens 1 if 1==2;end"), "");
    Sheet.due("there is no law", Sheet.broken(one(), 0), "");
  }

  public static void main(String[] args) throws IOException {
    Sheet.begin();
    length();
    blanks();
    names();
    ints();
    signs();
    texts();
    ruleForms();
    conditions();
    sums();
    words();
    days();
    whose();
    vars();
    otherVars();
    wrap();
    firstFault();
    syntax();
    tokens();
    actsAndRules();
    brackets();
    likewise();
    twice();
    wrong();
    unchanged();
    broken();
    Sheet.end("II");
  }
}
