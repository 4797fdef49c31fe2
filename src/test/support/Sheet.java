import java.io.IOException;
import java.nio.charset.StandardCharsets;
import java.nio.file.Files;
import java.nio.file.Path;
import java.util.ArrayList;
import java.util.LinkedHashMap;
import java.util.List;
import java.util.Map;

/**
 * What the tests of the document's sentences share: the sentence that is tested, answers that are due by it, and
 * texts for the tape.
 */
final class Sheet {
  static final int NO_SUCH = -1000000;
  /** Far from all that the document bounds, and where sums of it would wrap. */
  static final int[] FAR = {Integer.MIN_VALUE, Integer.MIN_VALUE + 1, -1000000, -2, 100000, Integer.MAX_VALUE - 1, Integer.MAX_VALUE};

  private static final Path DOCUMENT = Path.of("../shared/DOC.md");
  private static final int PATIENCE = 120000;

  private static final List<String[]> SAID = new ArrayList<>();
  private static int wrong = 0;
  private static int checks = 1;

  private Sheet() { }

  /** A call that does not end fails the test, too. */
  static void begin() {
    Thread watch = new Thread(() -> {
      try {
        Thread.sleep(PATIENCE);
      } catch (InterruptedException e) {
        return;
      }
      System.out.println("no end of: " + sentence());
      Runtime.getRuntime().halt(1);
    });
    watch.setDaemon(true);
    watch.start();
  }

  private static String sentence() {
    return SAID.isEmpty() ? "" : String.join(": ", SAID.get(SAID.size() - 1));
  }

  private static void fail(String what) {
    wrong++;
    System.out.println(what);
  }

  /** What is due from here on is due by this sentence of a part of the document. */
  static void says(String part, String sentence) {
    if (checks == 0) {
      fail("no test of: " + sentence());
    }
    checks = 0;
    SAID.add(new String[] {part, sentence});
  }

  static void due(String call, long got, long want) {
    checks++;
    if (got != want) {
      fail(sentence() + "\n    " + call + " answered " + got + ", due is " + want);
    }
  }

  static void due(String call, boolean got, boolean want) {
    due(call, got ? 1 : 0, want ? 1 : 0);
  }

  static void due(String call, String got, String want) {
    checks++;
    if (!got.equals(want)) {
      fail(sentence() + "\n    " + call + " answered " + got + ", due is " + want);
    }
  }

  /** Puts the bytes of a text on the tape: whole feeds, and what is too much of the last one goes back. */
  static void put(MillStream x, String text) {
    byte[] bytes = text.getBytes(StandardCharsets.ISO_8859_1);
    int feeds = (bytes.length + 19) / 20;
    for (int f = 0; f < feeds; f++) {
      int[] w = new int[5];
      for (int i = 0; i < 20; i++) {
        int p = 20 * f + i;
        w[i / 4] = w[i / 4] << 8 | (p < bytes.length ? bytes[p] & 255 : 'x');
      }
      x.feed(w[0], w[1], w[2], w[3], w[4]);
    }
    x.back(20 * feeds - bytes.length);
  }

  static int take(MillStream x, String text) {
    put(x, text);
    return x.read();
  }

  private static String shown(String text) {
    return text.length() > 90 ? text.substring(0, 60) + " .. " + text.substring(text.length() - 20) : text;
  }

  /** Of an object that may have read others ahead of it: the text's fault and its place. */
  static void fault(MillStream x, String text, int number, int place) {
    due("read() of " + shown(text), take(x, text), number);
    due("place() of " + shown(text), x.place(), place);
  }

  static void fault(String text, int number, int place) {
    fault(new MillStream(), text, number, place);
  }

  static void good(String text) {
    fault(text, 0, -1);
  }

  /** All that is broken in an hour, all facts known, with blanks between. */
  static String broken(MillStream x, int h) {
    StringBuilder all = new StringBuilder();
    int n = x.count(1);
    for (int i = 0; i < 211; i++) {
      int b = x.broken(h, n, i);
      if (b == -1) {
        break;
      }
      all.append(i == 0 ? "" : " ").append(b);
    }
    return all.toString();
  }

  /** All that at() tells of a mill in an hour, all facts known, from LEVEL on. */
  static void row(MillStream x, int h, int m, int... want) {
    int n = x.count(1);
    for (int what = 0; what < want.length; what++) {
      due("at(" + h + ", " + m + ", " + n + ", " + what + ")", x.at(h, m, n, what), want[what]);
    }
  }

  static void planned(MillStream x, int... want) {
    for (int i = 0; i < want.length; i++) {
      due("planned(" + i + ")", x.planned(i), want[i]);
    }
    due("planned(" + want.length + ")", x.planned(want.length), -1);
  }

  // ---- the document: each sentence of a part has its test

  private static String plain(String text) {
    return text.replaceAll("\\s+", " ").trim();
  }

  private static Map<String, String> parts(String document) {
    Map<String, String> parts = new LinkedHashMap<>();
    String name = "";
    StringBuilder text = new StringBuilder();
    for (String line : document.split("\n")) {
      boolean term = line.startsWith("==== ");
      if (line.startsWith("## ") || term) {
        parts.put(name, plain(text.toString()));
        text.setLength(0);
        name = term ? line.substring(5, line.indexOf('.')) : line.substring(3).trim();
      }
      if (!line.startsWith("#") && !line.startsWith("```")) {
        text.append(line.replaceAll("^`[^`]*`:", "").replaceAll("^==== [IV]+\\.", "")).append('\n');
      }
    }
    parts.put(name, plain(text.toString()));
    return parts;
  }

  private static void compare(Map<String, String> parts, List<String> whole) {
    Map<String, StringBuilder> left = new LinkedHashMap<>();
    parts.forEach((name, text) -> left.put(name, new StringBuilder(text)));
    for (String[] said : SAID) {
      String text = parts.getOrDefault(said[0], "");
      String quote = plain(said[1]);
      int p = text.indexOf(quote);
      if (p < 0) {
        fail("the document does not say: " + said[0] + ": " + said[1]);
      }
      for (int i = 0; p >= 0 && i < quote.length(); i++) {
        left.get(said[0]).setCharAt(p + i, ' ');
      }
    }
    for (String name : whole) {
      String rest = left.containsKey(name) ? plain(left.get(name).toString()) : "all of it";
      if (rest.matches("(?s).*[A-Za-z0-9].*")) {
        fail("no test of " + name + ": " + rest);
      }
    }
  }

  /** Ends the test: the parts that are told are tested whole. */
  static void end(String... whole) throws IOException {
    says("", "");
    SAID.remove(SAID.size() - 1);
    if (Files.exists(DOCUMENT)) {
      compare(parts(Files.readString(DOCUMENT)), List.of(whole));
    }
    System.out.println(SAID.size() + " sentences: " + (wrong == 0 ? "all answers are as due" : wrong + " are not as due"));
    System.exit(wrong == 0 ? 0 : 1);
  }
}
