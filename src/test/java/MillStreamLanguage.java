import com.sun.source.tree.CompilationUnitTree;
import com.sun.source.tree.IdentifierTree;
import com.sun.source.tree.MemberSelectTree;
import com.sun.source.tree.MethodInvocationTree;
import com.sun.source.tree.MethodTree;
import com.sun.source.util.JavacTask;
import com.sun.source.util.TreeScanner;
import java.lang.management.ManagementFactory;
import java.lang.reflect.Field;
import java.lang.reflect.Method;
import java.lang.reflect.Modifier;
import java.nio.charset.StandardCharsets;
import java.nio.file.Files;
import java.nio.file.Path;
import java.util.LinkedHashSet;
import java.util.List;
import java.util.Map;
import java.util.Set;
import java.util.TreeMap;
import java.util.TreeSet;
import java.util.regex.Matcher;
import java.util.regex.Pattern;
import javax.tools.JavaCompiler;
import javax.tools.StandardJavaFileManager;
import javax.tools.ToolProvider;

/** The form of the program: the document's face and no more, what LANGUAGE.md forbids, and how much a run makes. */
public final class MillStreamLanguage {
  private static final Path SOURCE = Path.of("src/main/java/MillStream.java");
  private static int wrong = 0;

  private static void must(boolean holds, String what) {
    if (!holds) {
      wrong++;
      System.out.println(what);
    }
  }

  private static void face() {
    Set<String> want = new TreeSet<>(List.of("feed(int,int,int,int,int)int", "back(int)int", "read()int", "place()int",
        "mill(int,int,int,int)int", "spring(int)boolean", "factors(int)boolean", "factor(int,int)boolean", "clock(int)boolean",
        "rain(int,int,int)int", "order(int,boolean,int)int", "grist(int,int)int", "at(int,int,int,int)int", "sea(int,int)int",
        "broken(int,int,int)int", "first(int,int,int)int", "loss(int,int,int,int,int)int", "culprit(int,int,int,int)int",
        "plan(int,int,int)int", "planned(int)int", "told(int,int,int)int", "tolls(int,int,int)int", "count(int)int"));
    Set<String> names = new TreeSet<>();
    Set<String> found = new TreeSet<>();
    for (Method m : MillStream.class.getDeclaredMethods()) {
      if (!Modifier.isPrivate(m.getModifiers())) {
        StringBuilder s = new StringBuilder();
        for (Class<?> p : m.getParameterTypes()) {
          s.append(s.length() == 0 ? "" : ",").append(p.getName());
        }
        found.add(m.getName() + "(" + s + ")" + m.getReturnType().getName());
        names.add(m.getName());
        must(Modifier.isPublic(m.getModifiers()) && !Modifier.isStatic(m.getModifiers()), "rule 1: " + m);
      }
    }
    must(found.equals(want), "rule 1: the face is " + found);
    must(MillStream.class.getDeclaredConstructors().length == 1 && MillStream.class.getConstructors().length == 1,
        "rule 1: the constructor");
    must(Modifier.isFinal(MillStream.class.getModifiers()), "rule 1: the class is final");
    inside(MillStream.class, names);
    for (Class<?> c : MillStream.class.getDeclaredClasses()) {
      must(Modifier.isStatic(c.getModifiers()) && !Modifier.isPublic(c.getModifiers()), "rule 1: " + c);
      inside(c, names);
    }
    must(MillStream.class.getDeclaredClasses().length <= 14, "rule 11: too many classes");
  }

  private static void inside(Class<?> c, Set<String> names) {
    int fields = 0;
    for (Field f : c.getDeclaredFields()) {
      boolean constant = Modifier.isStatic(f.getModifiers());
      fields += constant ? 0 : 1;
      must(!constant || Modifier.isFinal(f.getModifiers()), "rule 5: " + f);
      must(!constant || f.isSynthetic() || f.isEnumConstant() || isConstant(f.getType()), "rule 5: " + f);
      must(c != MillStream.class || Modifier.isPrivate(f.getModifiers()) || f.getName().equals("NONE"), "rule 1: " + f);
    }
    must(fields <= 24, "rule 11: " + c + " has " + fields + " fields");
    for (Method m : c.getDeclaredMethods()) {
      must(!m.getName().startsWith("lambda$"), "rule 2: " + m);
      must(m.getParameterCount() <= 7, "rule 11: " + m);
      must(c == MillStream.class && Modifier.isPublic(m.getModifiers()) || !names.contains(m.getName()), "rule 1: " + m);
    }
  }

  private static boolean isConstant(Class<?> type) {
    Class<?> of = type.isArray() ? type.getComponentType() : type;
    return of.isPrimitive() || of == String.class || of.isEnum();
  }

  private static void words() throws Exception {
    String text = Files.readString(SOURCE, StandardCharsets.ISO_8859_1);
    String code = text.replaceAll("(?s)/\\*.*?\\*/", "").replaceAll("//[^\n]*", "");
    code = code.replaceAll("'(\\\\.|[^'\\\\])'", "' '").replaceAll("\"[^\"\n]*\"", "\"\"");
    Matcher m = Pattern.compile("\\b(throw|throws|try|catch|finally|synchronized|assert|volatile|native|Object|System\\.out"
        + "|hashCode|\\w*Exact)\\b|::|\"\\s*\\+|\\+\\s*\"").matcher(code);
    while (m.find()) {
      must(false, "rules 2 to 10: '" + m.group() + "' in the code");
    }
    Matcher imports = Pattern.compile("import ([^;]*);").matcher(code);
    while (imports.find()) {
      must(imports.group(1).matches("java\\.util\\.(Arrays|ArrayList|List)"), "rule 4: " + imports.group());
    }
    lengths(code.split("\n"));
  }

  private static void lengths(String[] lines) {
    int start = -1;
    String end = "";
    for (int i = 0; i < lines.length; i++) {
      Matcher m = Pattern.compile("( {4}| {8})[a-zA-Z][^;=]*\\) \\{").matcher(lines[i]);
      if (start < 0 && m.matches()) {
        start = i;
        end = m.group(1) + "}";
      } else if (start >= 0 && lines[i].equals(end)) {
        must(i - start <= 70, "rule 11: the method at line " + (start + 1) + " is too long");
        start = -1;
      }
    }
  }

  /** Which methods call which, by their names alone: two of one name count as one that calls what both do. */
  private static final class Calls extends TreeScanner<Void, Set<String>> {
    final Map<String, Set<String>> of = new TreeMap<>();

    @Override
    public Void visitMethod(MethodTree method, Set<String> outer) {
      return super.visitMethod(method, of.computeIfAbsent(method.getName().toString(), n -> new TreeSet<>()));
    }

    @Override
    public Void visitMethodInvocation(MethodInvocationTree call, Set<String> from) {
      if (from != null && call.getMethodSelect() instanceof IdentifierTree own) {
        from.add(own.getName().toString());
      }
      if (from != null && call.getMethodSelect() instanceof MemberSelectTree others) {
        from.add(others.getIdentifier().toString());
      }
      return super.visitMethodInvocation(call, from);
    }

    /** Goes down all ways that have no method twice: a call of one that stands open is recursion. */
    void descend(String method, Set<String> open) {
      if (of.containsKey(method) && open.add(method)) {
        must(open.size() <= 8, "rule 11: these calls go too deep: " + open);
        for (String next : of.get(method)) {
          descend(next, open);
        }
        open.remove(method);
      }
    }
  }

  private static void depths() throws Exception {
    JavaCompiler compiler = ToolProvider.getSystemJavaCompiler();
    try (StandardJavaFileManager files = compiler.getStandardFileManager(null, null, null)) {
      JavacTask task = (JavacTask) compiler.getTask(null, files, null, null, null, files.getJavaFileObjects(SOURCE));
      Calls calls = new Calls();
      for (CompilationUnitTree unit : task.parse()) {
        calls.scan(unit, null);
      }
      must(calls.of.size() > 60, "rule 11: no calls were found");
      for (String method : calls.of.keySet()) {
        calls.descend(method, new LinkedHashSet<>());
      }
    }
  }

  private static long made() {
    com.sun.management.ThreadMXBean bean = (com.sun.management.ThreadMXBean) ManagementFactory.getThreadMXBean();
    return bean.getThreadAllocatedBytes(Thread.currentThread().getId());
  }

  private static int askAll(MillStream x) {
    int sum = x.at(239, 0, 1, 0) + x.sea(240, 1) + x.broken(239, 1, 0) + x.first(0, 240, 1) + x.loss(0, 1, 0, 240, 1);
    sum += x.culprit(1, 0, 240, 1) + x.plan(0, 6, 1) + x.planned(0) + x.told(0, 1, 3) + x.tolls(0, 240, 1) + x.count(0);
    sum += x.feed(0x61626364, 0x61626364, 0x61626364, 0x61626364, 0x61626364) + x.read() + x.place();
    return sum;
  }

  /** A whole run, with the dearest questions, is small beside the room of 7.3 million fields and elements. */
  private static void room() {
    long start = made();
    MillStream x = new MillStream();
    x.mill(100, 20, 4, 3);
    x.mill(100, 20, 2, 3);
    x.spring(5);
    x.rain(0, 0, 50);
    x.order(0, false, 1);
    x.grist(0, 10);
    // feeds "act a from 0; any opens 1 if level < 9; end  "
    int[] law = {0x61637420, 0x61206672, 0x6f6d2030, 0x3b20616e, 0x79206f70, 0x656e7320, 0x31206966, 0x206c6576, 0x656c203c,
      0x20393b20, 0x656e6420, 0x20202020, 0x20202020, 0x20202020, 0x20202020};
    for (int i = 0; i < law.length; i += 5) {
      x.feed(law[i], law[i + 1], law[i + 2], law[i + 3], law[i + 4]);
    }
    must(x.read() == 0 && x.count(5) == 1, "the law was not taken");
    int sum = 0;
    for (int i = 0; i < 35; i++) {
      sum += askAll(x);
    }
    long bytes = made() - start;
    must(bytes < 4L * 7300000, "rule 12: a run made " + bytes + " bytes, and its answers were " + sum);
  }

  public static void main(String[] args) throws Exception {
    face();
    words();
    depths();
    room();
    System.out.println(wrong == 0 ? "the form is as due" : wrong + " rules are not kept");
    if (wrong != 0) {
      System.exit(1);
    }
  }
}
