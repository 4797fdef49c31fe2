import java.nio.charset.StandardCharsets;
import java.util.ArrayList;
import java.util.Arrays;
import java.util.HashMap;
import java.util.HashSet;
import java.util.LinkedHashSet;
import java.util.List;
import java.util.Map;
import java.util.Random;
import java.util.Set;
import java.util.function.ToIntFunction;

/** Random runs (the same ones each time), each answer against that of a slow model that is written another way. */
public final class MillStreamModel {
  private static final int NO_SUCH = -1000000;
  private static int wrong = 0;
  private static long calls = 0;
  /** What an object answers beyond 512 calls is free: no text and no plan is begun that could go beyond them. */
  private static final int MOST_CALLS = 512 - 105;

  // ---- the grammar, as Earley's items go through it: only to tell the first token with which no text goes on

  private static final String[][] GRAMMAR = {
    {"text"}, {"text", "text", "act"},
    {"act", "'act", "'NAME", "'from", "'INT", "until", "';", "rules", "'end"},
    {"until"}, {"until", "'until", "'INT"},
    {"rules"}, {"rules", "rules", "rule"},
    {"rule", "who", "'must", "cond", "opt", "';"}, {"rule", "who", "'opens", "e", "opt", "';"},
    {"opt"}, {"opt", "'if", "cond"},
    {"who", "'mill", "'INT"}, {"who", "'any"},
    {"cond", "all"}, {"cond", "cond", "'or", "all"},
    {"all", "rel"}, {"all", "all", "'and", "rel"},
    {"rel", "e", "cmp", "e"},
    {"cmp", "'=="}, {"cmp", "'!="}, {"cmp", "'<"}, {"cmp", "'<="},
    {"e", "s"}, {"e", "e", "'+", "part"}, {"e", "e", "'-", "part"},
    {"s", "part"}, {"s", "'-", "part"},
    {"part", "unit"}, {"part", "part", "'*", "unit"},
    {"unit", "'INT"}, {"unit", "'VAR"}, {"unit", "'(", "e", "')"},
  };
  private static final Set<String> NULLABLE = Set.of("text", "until", "rules", "opt");
  private static final List<String> VARS =
      List.of("level", "mark", "cap", "below", "above", "in", "wheel", "gate", "hour", "day", "work", "out");
  private static final Set<String> OTHER_WORDS =
      Set.of("act", "from", "until", "end", "must", "if", "opens", "mill", "any", "or", "and");

  private record Item(int rule, int dot, int origin) { }

  private record Token(String kind, String text, int place) { }

  private static Set<Item> closed(List<Set<Item>> sets, Set<Item> start, int at) {
    Set<Item> all = new LinkedHashSet<>(start);
    List<Item> todo = new ArrayList<>(all);
    for (int i = 0; i < todo.size(); i++) {
      Item item = todo.get(i);
      String[] rule = GRAMMAR[item.rule];
      List<Item> more = new ArrayList<>();
      if (item.dot == rule.length) {
        Set<Item> origin = item.origin == at ? all : sets.get(item.origin);
        for (Item o : origin) {
          if (o.dot < GRAMMAR[o.rule].length && GRAMMAR[o.rule][o.dot].equals(rule[0])) {
            more.add(new Item(o.rule, o.dot + 1, o.origin));
          }
        }
      } else if (!rule[item.dot].startsWith("'")) {
        for (int r = 0; r < GRAMMAR.length; r++) {
          if (GRAMMAR[r][0].equals(rule[item.dot])) {
            more.add(new Item(r, 1, at));
          }
        }
        if (NULLABLE.contains(rule[item.dot])) {
          more.add(new Item(item.rule, item.dot + 1, item.origin));
        }
      }
      for (Item m : more) {
        if (all.add(m)) {
          todo.add(m);
        }
      }
    }
    return all;
  }

  /** The index of the first token with which no text goes on; NONE: the text is one. */
  private static int firstMisfit(List<Token> tokens) {
    List<Set<Item>> sets = new ArrayList<>();
    sets.add(closed(sets, Set.of(new Item(0, 1, 0), new Item(1, 1, 0)), 0));
    for (int i = 0; i < tokens.size(); i++) {
      Set<Item> next = new LinkedHashSet<>();
      for (Item item : sets.get(i)) {
        String[] rule = GRAMMAR[item.rule];
        if (item.dot < rule.length && rule[item.dot].equals("'" + tokens.get(i).kind)) {
          next.add(new Item(item.rule, item.dot + 1, item.origin));
        }
      }
      if (next.isEmpty()) {
        return i;
      }
      sets.add(closed(sets, next, i + 1));
    }
    for (Item item : sets.get(tokens.size())) {
      if (GRAMMAR[item.rule][0].equals("text") && item.origin == 0 && item.dot == GRAMMAR[item.rule].length) {
        return -1;
      }
    }
    return tokens.size();
  }

  private static List<Token> tokensOf(String text) {
    List<Token> tokens = new ArrayList<>();
    int p = 0;
    while (p < text.length()) {
      String rest = text.substring(p);
      String t = longest(rest, "[a-z]+", "[0-9]+", "==|!=|<=|[;:()+*<-]", "(?s).");
      if (!t.matches("[\\t\\n\\r ]")) {
        tokens.add(new Token(kindOf(t), t, p));
      }
      p += t.length();
    }
    return tokens;
  }

  private static String longest(String rest, String... patterns) {
    for (String pattern : patterns) {
      java.util.regex.Matcher m = java.util.regex.Pattern.compile(pattern).matcher(rest);
      if (m.lookingAt()) {
        return m.group();
      }
    }
    throw new IllegalStateException(rest);
  }

  private static String kindOf(String t) {
    if (t.matches("[a-z]+")) {
      return t.length() > 8 ? "BAD" : VARS.contains(t) ? "VAR" : OTHER_WORDS.contains(t) ? t : "NAME";
    }
    if (t.matches("[0-9]+")) {
      return t.length() > 4 ? "BAD" : "INT";
    }
    return t.matches("==|!=|<=|[;:()+*<-]") ? t : "BAD";
  }

  // ---- the model

  private record Rule(int number, int who, int from, int until, boolean opens, ToIntFunction<int[]> told, ToIntFunction<int[]> when) { }

  private static final class Model {
    final StringBuilder tape = new StringBuilder();
    int place = -1;
    final List<int[]> mills = new ArrayList<>();
    int spring = 0;
    int[] factors = {1};
    int clock = 0;
    final List<int[]> rains = new ArrayList<>();
    final List<int[]> orders = new ArrayList<>();
    final List<int[]> grists = new ArrayList<>();
    final Set<String> acts = new HashSet<>();
    final List<Rule> rules = new ArrayList<>();
    int[] plan = {};

    int feed(int... words) {
      if (tape.length() > 1980) {
        return -1;
      }
      for (int w : words) {
        for (int i = 3; i >= 0; i--) {
          tape.append((char) (w >>> 8 * i & 255));
        }
      }
      return tape.length();
    }

    int back(int n) {
      if (n < 0 || n > tape.length()) {
        return -1;
      }
      tape.setLength(tape.length() - n);
      return tape.length();
    }

    int read() {
      String text = tape.toString();
      tape.setLength(0);
      List<Token> tokens = tokensOf(text);
      int[] fault = faultOf(tokens, text.length());
      place = fault[1];
      if (fault[0] == 0) {
        takeActs(tokens);
      }
      return fault[0];
    }

    private int[] faultOf(List<Token> tokens, int end) {
      int misfit = firstMisfit(tokens);
      int newActs = 0;
      int newRules = 0;
      int depth = 0;
      for (int i = 0; i < tokens.size() && i != misfit; i++) {
        String kind = tokens.get(i).kind;
        newActs += kind.equals("act") ? 1 : 0;
        newRules += kind.equals("mill") || kind.equals("any") ? 1 : 0;
        depth += kind.equals("(") ? 1 : kind.equals(")") ? -1 : 0;
        if (i >= 600 || acts.size() + newActs > 10 || rules.size() + newRules > 30 || depth > 8) {
          return new int[] {2, tokens.get(i).place};
        }
      }
      if (misfit >= 0) {
        return new int[] {1, misfit < tokens.size() ? tokens.get(misfit).place : end};
      }
      Set<String> seen = new HashSet<>(acts);
      int from = 0;
      for (int i = 0; i < tokens.size(); i++) {
        Token t = tokens.get(i);
        String ahead = i > 0 ? tokens.get(i - 1).kind : "";
        if (t.kind.equals("NAME") && !seen.add(t.text)) {
          return new int[] {3, t.place};
        }
        from = ahead.equals("from") ? Integer.parseInt(t.text) : from;
        if (ahead.equals("mill") && Integer.parseInt(t.text) > 6 || ahead.equals("until") && Integer.parseInt(t.text) <= from) {
          return new int[] {5, t.place};
        }
      }
      return new int[] {0, -1};
    }

    private void takeActs(List<Token> tokens) {
      int from = 0;
      int until = 0;
      for (int i = 0; i < tokens.size(); i++) {
        String kind = tokens.get(i).kind;
        if (kind.equals("act")) {
          acts.add(tokens.get(i + 1).text);
          from = Integer.parseInt(tokens.get(i + 3).text);
          until = tokens.get(i + 4).kind.equals("until") ? Integer.parseInt(tokens.get(i + 5).text) : Integer.MAX_VALUE;
        } else if (kind.equals("mill") || kind.equals("any")) {
          int who = kind.equals("any") ? -1 : Integer.parseInt(tokens.get(i + 1).text);
          int start = kind.equals("any") ? i + 1 : i + 2;
          int end = find(tokens, start, tokens.size(), ";");
          int when = find(tokens, start, end, "if");
          boolean opens = tokens.get(start).kind.equals("opens");
          ToIntFunction<int[]> told = opens ? sum(tokens, start + 1, when) : condition(tokens, start + 1, when);
          ToIntFunction<int[]> cond = when < end ? condition(tokens, when + 1, end) : v -> 1;
          rules.add(new Rule(rules.size(), who, from, until, opens, told, cond));
        }
      }
    }

    private static int find(List<Token> tokens, int from, int to, String... kinds) {
      int depth = 0;
      for (int i = from; i < to; i++) {
        String kind = tokens.get(i).kind;
        depth += kind.equals("(") ? 1 : kind.equals(")") ? -1 : 0;
        if (depth == 0 && Arrays.asList(kinds).contains(kind)) {
          return i;
        }
      }
      return to;
    }

    private static int findLast(List<Token> tokens, int from, int to, String... kinds) {
      int depth = 0;
      for (int i = to - 1; i >= from; i--) {
        String kind = tokens.get(i).kind;
        depth += kind.equals(")") ? 1 : kind.equals("(") ? -1 : 0;
        if (depth == 0 && Arrays.asList(kinds).contains(kind)) {
          return i;
        }
      }
      return -1;
    }

    private static ToIntFunction<int[]> condition(List<Token> t, int from, int to) {
      int or = find(t, from, to, "or");
      if (or < to) {
        ToIntFunction<int[]> a = condition(t, from, or);
        ToIntFunction<int[]> b = condition(t, or + 1, to);
        return v -> a.applyAsInt(v) != 0 || b.applyAsInt(v) != 0 ? 1 : 0;
      }
      int and = find(t, from, to, "and");
      if (and < to) {
        ToIntFunction<int[]> a = condition(t, from, and);
        ToIntFunction<int[]> b = condition(t, and + 1, to);
        return v -> a.applyAsInt(v) != 0 && b.applyAsInt(v) != 0 ? 1 : 0;
      }
      int sign = find(t, from, to, "==", "!=", "<", "<=");
      ToIntFunction<int[]> a = sum(t, from, sign);
      ToIntFunction<int[]> b = sum(t, sign + 1, to);
      String s = t.get(sign).kind;
      return v -> {
        int x = a.applyAsInt(v);
        int y = b.applyAsInt(v);
        return (s.equals("==") ? x == y : s.equals("!=") ? x != y : s.equals("<") ? x < y : x <= y) ? 1 : 0;
      };
    }

    private static ToIntFunction<int[]> sum(List<Token> t, int from, int to) {
      int sign = findLast(t, from, to, "+", "-");
      if (sign > from) {
        ToIntFunction<int[]> a = sum(t, from, sign);
        ToIntFunction<int[]> b = product(t, sign + 1, to);
        return t.get(sign).kind.equals("+") ? v -> a.applyAsInt(v) + b.applyAsInt(v) : v -> a.applyAsInt(v) - b.applyAsInt(v);
      }
      if (sign == from) {
        ToIntFunction<int[]> b = product(t, from + 1, to);
        return v -> -b.applyAsInt(v);
      }
      return product(t, from, to);
    }

    private static ToIntFunction<int[]> product(List<Token> t, int from, int to) {
      int times = findLast(t, from, to, "*");
      if (times > from) {
        ToIntFunction<int[]> a = product(t, from, times);
        ToIntFunction<int[]> b = product(t, times + 1, to);
        return v -> a.applyAsInt(v) * b.applyAsInt(v);
      }
      Token first = t.get(from);
      if (first.kind.equals("(")) {
        return sum(t, from + 1, to - 1);
      }
      if (first.kind.equals("INT")) {
        int value = Integer.parseInt(first.text);
        return v -> value;
      }
      int var = VARS.indexOf(first.text);
      return v -> v[var];
    }

    int mill(int cap, int mark, int wheel, int gate) {
      if (mills.size() == 7 || clock != 0 || cap < 1 || cap > 1000 || mark < 0 || mark > cap || wheel < 1 || wheel > 4
          || gate < 0 || gate > 9) {
        return -1;
      }
      mills.add(new int[] {cap, mark, wheel, gate});
      return mills.size() - 1;
    }

    boolean factors(int n) {
      if (n == -1) {
        factors = null;
      } else if (n >= 1 && n <= 20) {
        factors = new int[n];
        Arrays.fill(factors, 1);
      } else {
        return false;
      }
      return true;
    }

    boolean factor(int i, int v) {
      if (factors == null || i < 0 || i >= factors.length || Math.abs((long) v) > 100) {
        return false;
      }
      factors[i] = v;
      return true;
    }

    boolean isMill(int m) {
      return m >= 0 && m < mills.size();
    }

    boolean isKnown(int n) {
      return n >= 0 && n <= rains.size();
    }

    static boolean within(int v, int least, int most) {
      return v >= least && v <= most;
    }

    int setting(int h, int m, int gate, int skip) {
      int v = 0;
      for (int k = 0; k < orders.size(); k++) {
        int[] o = orders.get(k);
        v = k != skip && o[0] <= h && o[1] == m && o[2] == gate ? o[3] : v;
      }
      return v;
    }

    /** All hours ahead of an end: [hour][mill][what], and behind them the gate by orders. */
    int[][][] hours(int end, int n, int skip, int planMill, int[] wheels) {
      Map<Integer, Integer> fallen = new HashMap<>();
      for (int[] r : rains.subList(0, n)) {
        fallen.put(r[0] * 10 + r[1], r[2]);
      }
      int[][][] all = new int[end][mills.size()][11];
      for (int h = 0; h < end; h++) {
        for (int m = 0; m < mills.size(); m++) {
          int[] now = all[h][m];
          if (h > 0) {
            int[] ahead = all[h - 1][m];
            now[0] = ahead[0] + ahead[1] - ahead[9];
          }
          now[1] = fallen.getOrDefault(h * 10 + m, 0) + (m == 0 ? spring : h > 0 ? all[h - 1][m - 1][9] : 0);
          boolean plans = m == planMill && h >= clock && h < clock + wheels.length;
          now[2] = plans ? wheels[h - clock] : setting(h, m, 0, skip);
          now[10] = setting(h, m, 1, skip);
        }
        for (int m = 0; m < mills.size(); m++) {
          settle(all[h], h, m);
        }
      }
      return all;
    }

    private void settle(int[][] hour, int h, int m) {
      int[] now = hour[m];
      now[3] = now[10];
      int[] before = vars(hour, h, m, true);
      for (Rule r : rules) {
        if (r.opens && applies(r, before, m, h)) {
          now[3] = Math.max(now[3], Math.min(mills.get(m)[3], r.told.applyAsInt(before)));
        }
      }
      int above = m + 1 < mills.size() ? hour[m + 1][0] - mills.get(m + 1)[1] : 0;
      now[4] = above > 0 ? now[0] - above : now[0];
      int water = now[0] + now[1];
      now[5] = Math.min(water, 2 * now[2]);
      water -= now[5];
      int factor = now[4] <= 0 ? 0 : factors == null ? 1 : factors[Math.min(now[4] / 10, factors.length - 1)];
      now[6] = now[5] * factor;
      now[7] = Math.min(water, 3 * now[3]);
      water -= now[7];
      now[8] = water > mills.get(m)[0] ? water - mills.get(m)[0] : 0;
      now[9] = now[5] + now[7] + now[8];
    }

    private static boolean applies(Rule r, int[] vars, int m, int h) {
      return (r.who == -1 || r.who == m) && h / 24 >= r.from && h / 24 < r.until && r.when.applyAsInt(vars) != 0;
    }

    private int[] vars(int[][] hour, int h, int m, boolean before) {
      int[] now = hour[m];
      return new int[] {now[0], mills.get(m)[1], mills.get(m)[0], m + 1 < mills.size() ? hour[m + 1][0] : 0,
        m > 0 ? hour[m - 1][0] : 0, now[1], now[2], before ? now[10] : now[3], h % 24, h / 24, before ? 0 : now[6],
        before ? 0 : now[9]};
    }

    List<Integer> brokenIn(int[][] hour, int h) {
      List<Integer> found = new ArrayList<>();
      for (int m = 0; m < mills.size(); m++) {
        int[] vars = vars(hour, h, m, false);
        for (Rule r : rules) {
          if (!r.opens && applies(r, vars, m, h) && r.told.applyAsInt(vars) == 0) {
            found.add(100 * m + r.number);
          }
        }
      }
      return found;
    }

    int at(int h, int m, int n, int what) {
      if (!within(h, 0, 239) || !isMill(m) || !isKnown(n) || !within(what, 0, 9)) {
        return NO_SUCH;
      }
      return hours(h + 1, n, -1, -1, plan)[h][m][what];
    }

    int sea(int h, int n) {
      if (!within(h, 0, 240) || !isKnown(n)) {
        return -1;
      }
      int sum = 0;
      for (int[][] hour : hours(h, n, -1, -1, plan)) {
        sum += mills.isEmpty() ? 0 : hour[mills.size() - 1][9];
      }
      return sum;
    }

    int broken(int h, int n, int i) {
      if (!within(h, 0, 239) || !isKnown(n)) {
        return -1;
      }
      List<Integer> all = brokenIn(hours(h + 1, n, -1, -1, plan)[h], h);
      return i >= 0 && i < all.size() ? all.get(i) : -1;
    }

    int first(int a, int b, int n) {
      if (!within(a, 0, 240) || !within(b, 0, 240) || !isKnown(n)) {
        return -1;
      }
      int[][][] all = hours(b, n, -1, -1, plan);
      for (int h = a; h < b; h++) {
        if (!brokenIn(all[h], h).isEmpty()) {
          return h;
        }
      }
      return -1;
    }

    int worked(int m, int a, int b, int n, int skip) {
      int[][][] all = hours(b, n, skip, -1, plan);
      int sum = 0;
      for (int h = a; h < b; h++) {
        sum += all[h][m][6];
      }
      return sum;
    }

    int loss(int k, int m, int a, int b, int n) {
      if (!within(k, 0, orders.size() - 1) || !isMill(m) || !within(a, 0, 240) || !within(b, 0, 240) || !isKnown(n)) {
        return NO_SUCH;
      }
      return worked(m, a, b, n, k) - worked(m, a, b, n, -1);
    }

    int culprit(int m, int a, int b, int n) {
      int best = 0;
      int found = -1;
      for (int k = 0; k < orders.size(); k++) {
        int loss = orders.get(k)[1] == m ? 0 : loss(k, m, a, b, n);
        if (loss > best) {
          best = loss;
          found = k;
        }
      }
      return found;
    }

    int plan(int m, int k, int work) {
      if (!isMill(m) || !within(k, 1, 6) || clock + k > 240 || !within(work, 0, 10000)) {
        return -2;
      }
      int base = mills.get(m)[2] + 1;
      int ways = 1;
      for (int i = 0; i < k; i++) {
        ways *= base;
      }
      int best = -1;
      for (int way = 0; way < ways; way++) {
        int[] wheels = new int[k];
        for (int i = k - 1, rest = way; i >= 0; i--, rest /= base) {
          wheels[i] = rest % base;
        }
        int waste = wasteOf(m, wheels, work);
        if (waste >= 0 && (best < 0 || waste < best)) {
          best = waste;
          plan = wheels;
        }
      }
      return best;
    }

    private int wasteOf(int m, int[] wheels, int work) {
      int[][][] all = hours(clock + wheels.length, rains.size(), -1, m, wheels);
      int waste = 0;
      int worked = 0;
      for (int h = clock; h < clock + wheels.length; h++) {
        if (!brokenIn(all[h], h).isEmpty()) {
          return -1;
        }
        waste += all[h][m][7] + all[h][m][8];
        worked += all[h][m][6];
      }
      return worked >= work ? waste : -1;
    }

    /** Of each grist: how much is ground ahead of an hour, and in which hour it ends. */
    int[][] ground(int m, int end, int n) {
      int[][][] all = hours(end, n, -1, -1, plan);
      int[][] result = new int[grists.size()][];
      for (int g = 0; g < grists.size(); g++) {
        result[g] = new int[] {0, -1};
      }
      for (int h = 0; h < end; h++) {
        for (int unit = 0; unit < all[h][m][6]; unit++) {
          grindOne(result, m, h);
        }
      }
      return result;
    }

    private void grindOne(int[][] result, int m, int h) {
      for (int g = 0; g < grists.size(); g++) {
        int[] grist = grists.get(g);
        if (grist[1] == m && grist[0] <= h && result[g][0] < grist[2]) {
          result[g][0]++;
          result[g][1] = result[g][0] == grist[2] ? h : -1;
          return;
        }
      }
    }

    int told(int g, int n, int what) {
      if (!within(g, 0, grists.size() - 1) || !isKnown(n)) {
        return -1;
      }
      int[] grist = grists.get(g);
      return switch (what) {
        case 0 -> grist[1];
        case 1 -> grist[2];
        case 2 -> grist[0];
        case 3 -> ground(grist[1], 240, n)[g][1];
        case 4 -> ground(grist[1], clock, n)[g][0];
        default -> -1;
      };
    }

    int tolls(int m, int h, int n) {
      if (!isMill(m) || !within(h, 0, 240) || !isKnown(n)) {
        return -1;
      }
      int sum = 0;
      int[][] all = ground(m, h, n);
      for (int g = 0; g < grists.size(); g++) {
        sum += all[g][1] >= 0 ? grists.get(g)[2] / 16 : 0;
      }
      return sum;
    }

    int count(int what) {
      int[] counts = {mills.size(), rains.size(), orders.size(), grists.size(), acts.size(), rules.size(), clock,
        factors == null ? -1 : factors.length, tape.length()};
      return what >= 0 && what < counts.length ? counts[what] : -1;
    }
  }

  // ---- random runs

  private final Random random;
  private final MillStream real = new MillStream();
  private final Model model = new Model();
  private final StringBuilder log = new StringBuilder();
  private final int seed;
  /** Rules that a mill can keep: so there are plans. */
  private final boolean calm;
  private int names = 0;
  private int callsHere = 0;

  private MillStreamModel(int seed) {
    this.seed = seed;
    calm = seed % 3 != 0;
    random = new Random(seed);
  }

  private void due(String call, long got, long want) {
    calls++;
    callsHere++;
    log.append(call).append(" = ").append(want).append('\n');
    if (got != want) {
      wrong++;
      if (wrong < 4) {
        System.out.println(log);
      }
      System.out.println("run " + seed + ": " + call + " answered " + got + ", due is " + want);
    }
  }

  private void due(String call, boolean got, boolean want) {
    due(call, got ? 1 : 0, want ? 1 : 0);
  }

  /** Mostly within the bounds, at times at them, just beyond or far off. */
  private int near(int least, int most) {
    int r = random.nextInt(24);
    if (r == 0) {
      return least - 1;
    }
    if (r == 1) {
      return most + 1;
    }
    if (r == 2) {
      return random.nextBoolean() ? least : most;
    }
    if (random.nextInt(60) == 0) {
      return new int[] {Integer.MIN_VALUE, Integer.MAX_VALUE, NO_SUCH, 1 << 16, -2}[random.nextInt(5)];
    }
    return most < least ? least : least + random.nextInt(Math.min(most - least, 100000) + 1);
  }

  private int anyKnown() {
    return random.nextInt(3) == 0 ? near(0, model.rains.size()) : model.rains.size();
  }

  private int anyMill() {
    return near(0, model.mills.size() - 1);
  }

  private String anyUnit(int depth) {
    int r = random.nextInt(8);
    if (r < 3) {
      return "" + (random.nextInt(6) == 0 ? random.nextInt(10000) : random.nextInt(40));
    }
    return r < 7 || depth > 9 ? VARS.get(random.nextInt(VARS.size())) : "(" + anySum(depth + 1) + ")";
  }

  private String anySum(int depth) {
    StringBuilder s = new StringBuilder(random.nextInt(6) == 0 ? "-" : "");
    s.append(anyUnit(depth));
    while (random.nextInt(3) == 0) {
      s.append(new String[] {" + ", "-", "*", " * "}[random.nextInt(4)]).append(anyUnit(depth));
    }
    return s.toString();
  }

  private String anyCondition() {
    StringBuilder s = new StringBuilder();
    do {
      s.append(s.length() == 0 ? "" : random.nextBoolean() ? " and " : " or ");
      s.append(anySum(0)).append(new String[] {" == ", "!=", "<", " <= "}[random.nextInt(4)]).append(anySum(0));
    } while (random.nextInt(3) == 0);
    return s.toString();
  }

  private String calmRule() {
    String[] musts = {"wheel < ", "level <= cap - ", "out <= 3 * ", "gate <= 5 + ", "work <= 2 * ", "0 <= level * ", "in < 9 * "};
    String told = " must " + musts[random.nextInt(musts.length)] + (1 + random.nextInt(6));
    return (random.nextBoolean() ? "any" : "mill " + random.nextInt(4)) + told
        + (random.nextBoolean() ? " if " + (1 + random.nextInt(12)) + " < hour" : "") + ";";
  }

  private String anyRule() {
    if (calm && random.nextInt(4) != 0) {
      return calmRule();
    }
    if (calm) {
      return "any opens " + anySum(0) + " if " + anyCondition() + ";";
    }
    String who = random.nextBoolean() ? "any" : "mill " + (random.nextInt(12) == 0 ? 7 : random.nextInt(7));
    String told = random.nextInt(3) == 0 ? " opens " + anySum(0) : " must " + anyCondition();
    return who + told + (random.nextBoolean() ? " if " + anyCondition() : "") + ";\n";
  }

  private String anyText() {
    StringBuilder s = new StringBuilder();
    for (int acts = random.nextInt(12) == 0 ? 4 : 1; acts > 0; acts--) {
      int from = random.nextInt(4);
      String name = random.nextInt(20) == 0 ? "a" : "" + (char) ('a' + names / 20 % 20) + (char) ('a' + names++ % 20);
      s.append("act ").append(name).append(" from ").append(from);
      s.append(random.nextBoolean() ? " until " + (from + random.nextInt(6)) : "").append(";");
      for (int rules = random.nextInt(random.nextInt(20) == 0 ? 40 : 5); rules > 0; rules--) {
        s.append(anyRule());
      }
      s.append("end ");
    }
    if (random.nextInt(25) == 0) {
      s.append("act z from 0; any opens (((((((((1))))))))); end");
    }
    for (int changes = random.nextInt(4) == 0 ? random.nextInt(4) : 0; changes > 0 && s.length() > 0; changes--) {
      int p = random.nextInt(s.length());
      int kind = random.nextInt(4);
      String signs = " ;:()+-*=!<>.#\nAz9_";
      if (kind == 0) {
        s.deleteCharAt(p);
      } else if (kind == 1) {
        s.insert(p, signs.charAt(random.nextInt(signs.length())));
      } else if (kind == 2) {
        s.setCharAt(p, random.nextInt(3) == 0 ? (char) random.nextInt(256) : signs.charAt(random.nextInt(signs.length())));
      } else {
        s.setLength(p);
      }
    }
    return s.toString();
  }

  private void feedText(String text) {
    byte[] bytes = text.getBytes(StandardCharsets.ISO_8859_1);
    int length = Math.min(bytes.length, 2000);
    int over = (20 - length % 20) % 20;
    for (int i = 0; i < length; i += 20) {
      int[] w = new int[5];
      for (int j = 0; j < 20; j++) {
        w[j / 4] = w[j / 4] << 8 | (i + j < length ? bytes[i + j] & 255 : 'q');
      }
      due("feed", real.feed(w[0], w[1], w[2], w[3], w[4]), model.feed(w));
    }
    due("back(" + over + ")", real.back(over), model.back(over));
    due("read() of " + text, real.read(), model.read());
    due("place()", real.place(), model.place);
  }

  private void tell() {
    int m = anyMill();
    switch (random.nextInt(14)) {
      case 0 -> {
        int v = near(0, random.nextInt(4) == 0 ? 100 : 12);
        boolean want = v >= 0 && v <= 100;
        model.spring = want ? v : model.spring;
        due("spring(" + v + ")", real.spring(v), want);
      }
      case 1 -> {
        int n = random.nextInt(5) == 0 ? -1 : near(1, 20);
        due("factors(" + n + ")", real.factors(n), model.factors(n));
      }
      case 2 -> {
        int i = near(0, model.factors == null ? 3 : model.factors.length - 1);
        int v = random.nextInt(3) == 0 ? near(-100, 100) : near(0, 5);
        due("factor(" + i + ", " + v + ")", real.factor(i, v), model.factor(i, v));
      }
      case 3, 8, 9 -> {
        int h = random.nextInt(3) == 0 ? near(0, 239) : model.clock + random.nextInt(5);
        int v = near(0, random.nextInt(3) == 0 ? 1000 : 50);
        boolean ok = model.rains.size() < 400 && model.isMill(m) && h >= 0 && h < 240 && v >= 0 && v <= 1000;
        int want = ok ? model.rains.size() : -1;
        if (ok) {
          model.rains.add(new int[] {h, m, v});
        }
        due("rain(" + h + ", " + m + ", " + v + ")", real.rain(h, m, v), want);
      }
      case 4, 5, 6 -> {
        boolean gate = random.nextInt(3) == 0;
        int most = model.isMill(m) ? model.mills.get(m)[gate ? 3 : 2] : 2;
        int v = near(0, most);
        boolean ok = model.orders.size() < 200 && model.isMill(m) && v >= 0 && v <= most;
        int want = ok ? model.orders.size() : -1;
        if (ok) {
          model.orders.add(new int[] {model.clock, m, gate ? 1 : 0, v});
        }
        due("order(" + m + ", " + gate + ", " + v + ")", real.order(m, gate, v), want);
      }
      case 7 -> {
        int w = near(1, random.nextInt(4) == 0 ? 10000 : 40);
        boolean ok = model.grists.size() < 60 && model.isMill(m) && w >= 1 && w <= 10000;
        int want = ok ? model.grists.size() : -1;
        if (ok) {
          model.grists.add(new int[] {model.clock, m, w});
        }
        due("grist(" + m + ", " + w + ")", real.grist(m, w), want);
      }
      default -> {
        int h = random.nextInt(20) == 0 ? near(0, 239) : model.clock + random.nextInt(4) - (random.nextInt(9) == 0 ? 5 : 0);
        boolean want = h >= model.clock && h < 240;
        model.clock = want ? h : model.clock;
        due("clock(" + h + ")", real.clock(h), want);
      }
    }
  }

  private void ask() {
    int m = anyMill();
    int n = anyKnown();
    int h = random.nextInt(3) == 0 ? near(0, 239) : random.nextInt(Math.min(240, model.clock + 12));
    int a = random.nextInt(2) == 0 ? 0 : near(0, 240);
    int b = random.nextInt(2) == 0 ? 240 : near(0, 240);
    int what = near(0, 9);
    int i = near(0, 3);
    switch (random.nextInt(12)) {
      case 0, 1, 2 -> due("at(" + h + ", " + m + ", " + n + ", " + what + ")", real.at(h, m, n, what), model.at(h, m, n, what));
      case 3 -> due("sea(" + b + ", " + n + ")", real.sea(b, n), model.sea(b, n));
      case 4 -> due("broken(" + h + ", " + n + ", " + i + ")", real.broken(h, n, i), model.broken(h, n, i));
      case 5 -> due("first(" + a + ", " + b + ", " + n + ")", real.first(a, b, n), model.first(a, b, n));
      case 6 -> {
        int k = near(0, model.orders.size() - 1);
        m = random.nextInt(3) == 0 && k >= 0 && k < model.orders.size() ? model.orders.get(k)[1] + 1 : m;
        due("loss(" + k + ", " + m + ", " + a + ", " + b + ", " + n + ")", real.loss(k, m, a, b, n), model.loss(k, m, a, b, n));
      }
      case 7 -> due("culprit(" + m + ", " + a + ", " + b + ", " + n + ")", real.culprit(m, a, b, n), culprit(m, a, b, n));
      case 8 -> {
        int wheel = model.isMill(m) ? model.mills.get(m)[2] : 1;
        int k = wheel < 3 ? near(1, 6) : near(1, 3);
        int work = random.nextInt(6) == 0 ? near(0, 10000) : random.nextInt(1 + random.nextInt(40));
        k = wheel == 4 && k > 4 && k < 7 ? 4 : k;
        due("plan(" + m + ", " + k + ", " + work + ")", real.plan(m, k, work), model.plan(m, k, work));
        for (int j = -1; j < 7; j++) {
          due("planned(" + j + ")", real.planned(j), j >= 0 && j < model.plan.length ? model.plan[j] : -1);
        }
      }
      case 9 -> {
        int g = near(0, model.grists.size() - 1);
        int w = near(0, 4);
        due("told(" + g + ", " + n + ", " + w + ")", real.told(g, n, w), model.told(g, n, w));
      }
      case 10 -> due("tolls(" + m + ", " + b + ", " + n + ")", real.tolls(m, b, n), model.tolls(m, b, n));
      default -> {
        int w = near(0, 8);
        due("count(" + w + ")", real.count(w), model.count(w));
      }
    }
  }

  private int culprit(int m, int a, int b, int n) {
    boolean ok = model.isMill(m) && Model.within(a, 0, 240) && Model.within(b, 0, 240) && model.isKnown(n);
    return ok ? model.culprit(m, a, b, n) : -1;
  }

  private void addMills(int most) {
    for (int i = 0; i < most; i++) {
      int cap = near(1, random.nextInt(3) == 0 ? 1000 : 60);
      int mark = near(0, random.nextBoolean() ? cap : cap / 4);
      int wheel = near(1, 4);
      int gate = near(0, random.nextBoolean() ? 9 : 3);
      String call = "mill(" + cap + ", " + mark + ", " + wheel + ", " + gate + ")";
      due(call, real.mill(cap, mark, wheel, gate), model.mill(cap, mark, wheel, gate));
    }
  }

  private void run(int steps) {
    addMills(3 + random.nextInt(6));
    for (int i = 0; i < 12; i++) {
      tell();
    }
    for (int i = 0; i < steps && callsHere < MOST_CALLS; i++) {
      int r = random.nextInt(40);
      if (r < 1 || r < 2 && !calm) {
        feedText(anyText());
      } else if (r < 3) {
        addMills(1);
      } else if (r < 22) {
        tell();
      } else {
        ask();
      }
    }
  }

  /** Texts alone: what faults they have and where, and how much of the law stands. */
  private void readOnly(int steps) {
    for (int i = 0; i < steps && callsHere < MOST_CALLS; i++) {
      feedText(anyText());
      due("count(4)", real.count(4), model.count(4));
      due("count(5)", real.count(5), model.count(5));
    }
  }

  public static void main(String[] args) {
    int runs = args.length > 0 ? Integer.parseInt(args[0]) : 300;
    int base = args.length > 1 ? Integer.parseInt(args[1]) : 0;
    for (int seed = base; seed < base + runs; seed++) {
      new MillStreamModel(seed).run(120);
    }
    for (int seed = base; seed < base + runs; seed++) {
      new MillStreamModel(seed).readOnly(12);
    }
    System.out.println(calls + " calls: " + (wrong == 0 ? "all answers are as due" : wrong + " answers are not as due"));
    if (wrong != 0) {
      System.exit(1);
    }
  }
}
