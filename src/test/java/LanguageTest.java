import java.lang.management.ManagementFactory;
import java.lang.reflect.Constructor;
import java.lang.reflect.Field;
import java.lang.reflect.Method;
import java.lang.reflect.Modifier;
import java.nio.file.Files;
import java.nio.file.Path;
import java.util.ArrayList;
import java.util.Arrays;
import java.util.List;
import java.util.Set;
import java.util.TreeSet;
import java.util.regex.Matcher;
import java.util.regex.Pattern;

// The rules of LANGUAGE.md that a text or the compiled class can show, and the room that calls take.
// Run from the project's root, as .ci/run does.
public final class LanguageTest {
  private static int wrong = 0;

  private static final Set<String> FACE = new TreeSet<>(Arrays.asList(
      "int row(int,int,int)", "int set(int,int,long)", "int copy(int,int,int,int,int)", "long element(int,int)",
      "int show(int,int)", "int holds(int)", "int says(int,int)", "int read(int)", "int fault()", "int put(int,int)",
      "int vote(int,boolean)", "int lose(int,boolean)", "int down(int,int,int)", "int told(int)", "int state(int,int)",
      "int decided(int,int)", "int records(int,int)", "int record(int,int)", "int sent(int)", "int message(int,int)",
      "int alike(int)", "int blocked()", "int quiet()", "int harm(int)", "int block(int)", "int recovery(int,int)",
      "int spared()", "int judge(int,int,int)", "int drawn(int)", "int seed(int)", "int image()", "int restore()",
      "int status(int)"));

  private static void rule(int number, boolean kept, String what) {
    if (!kept) {
      wrong++;
      System.out.println("rule " + number + ": " + what);
    }
  }

  public static void main(String[] args) throws Exception {
    String source = Files.readString(Path.of("src/main/java/CommitPrefixes.java"));
    String code = source.replaceAll("(?s)/\\*.*?\\*/", "").replaceAll("//[^\n]*", "");
    words(code);
    lengths(source);
    face();
    classes();
    room();
    System.out.println(wrong == 0 ? "the language is kept" : wrong + " rules are broken");
    if (wrong != 0) System.exit(1);
  }

  private static void words(String code) {
    String bare = code.replaceAll("\"[^\"\n]*\"", "\"\"");
    for (String word : "throw throws try catch finally synchronized assert yield var transient volatile".split(" ")) {
      rule(6, !Pattern.compile("\\b" + word + "\\b").matcher(bare).find(), "the word " + word);
    }
    for (String sign : new String[] {"->", "::", "@"}) rule(2, !bare.contains(sign), "the sign " + sign);
    rule(4, !bare.contains("Exact("), "a function that ends in Exact");
    rule(10, !Pattern.compile("\"\\s*\\+|\\+\\s*\"").matcher(bare).find(), "texts joined by +");
    Matcher imports = Pattern.compile("import\\s+([\\w.*]+);").matcher(bare);
    Set<String> allowed = Set.of("java.util.Arrays", "java.util.ArrayList", "java.util.List", "java.util.Iterator");
    while (imports.find()) rule(4, allowed.contains(imports.group(1)), "import " + imports.group(1));
    rule(5, !Pattern.compile("static\\s*\\{").matcher(bare).find(), "a static block");
  }

  // Methods of the outer class stand 4 in, those of the classes inside 8 in.
  private static void lengths(String source) {
    String[] lines = source.split("\n");
    for (int i = 0; i < lines.length; i++) {
      Matcher begins = Pattern.compile("^( {4}| {8})(?! )[^=;]*\\w+\\(([^)]*)\\) \\{$").matcher(lines[i]);
      if (!begins.find()) continue;
      int end = i;
      while (end < lines.length && !lines[end].equals(begins.group(1) + "}")) end++;
      rule(11, end - i < 60, "a long method: " + lines[i].trim());
      rule(11, begins.group(2).split(",").length <= 7, "many parameters: " + lines[i].trim());
    }
  }

  private static String signature(Method m) {
    List<String> names = new ArrayList<>();
    for (Class<?> type : m.getParameterTypes()) names.add(type.getSimpleName());
    return m.getReturnType().getSimpleName() + " " + m.getName() + "(" + String.join(",", names) + ")";
  }

  private static void face() {
    Class<?> c = CommitPrefixes.class;
    rule(1, Modifier.isFinal(c.getModifiers()) && Modifier.isPublic(c.getModifiers()), "public and final");
    Set<String> open = new TreeSet<>();
    Set<String> openNames = new TreeSet<>();
    for (Method m : c.getDeclaredMethods()) {
      if (Modifier.isPublic(m.getModifiers())) { open.add(signature(m)); openNames.add(m.getName()); }
      else rule(1, Modifier.isPrivate(m.getModifiers()) || m.isSynthetic(), "not private: " + m);
    }
    rule(1, open.equals(FACE), "the face is " + open);
    for (Field f : c.getDeclaredFields()) {
      boolean none = f.getName().equals("NONE");
      rule(1, none ? Modifier.isPublic(f.getModifiers()) : Modifier.isPrivate(f.getModifiers()) || f.isSynthetic(), "field " + f);
      rule(5, !Modifier.isStatic(f.getModifiers()) || Modifier.isFinal(f.getModifiers()), "field " + f);
    }
    Constructor<?>[] made = c.getDeclaredConstructors();
    rule(1, made.length == 1 && made[0].getParameterCount() == 0, "one constructor");
    List<Class<?>> all = new ArrayList<>(Arrays.asList(c.getDeclaredClasses()));
    all.add(c);
    for (Class<?> inside : all) {
      for (Method m : inside.getDeclaredMethods()) {
        boolean own = inside == c && Modifier.isPublic(m.getModifiers());
        rule(1, own || !openNames.contains(m.getName()), "a second " + m.getName() + " in " + inside);
      }
    }
  }

  private static void classes() {
    Class<?>[] inside = CommitPrefixes.class.getDeclaredClasses();
    rule(11, inside.length <= 12, "classes: " + inside.length);
    for (Class<?> c : inside) {
      rule(2, Modifier.isStatic(c.getModifiers()), c + " is static");
      int fields = 0;
      for (Field f : c.getDeclaredFields()) {
        if (!Modifier.isStatic(f.getModifiers())) fields++;
        rule(5, !Modifier.isStatic(f.getModifiers()) || Modifier.isFinal(f.getModifiers()), "field " + f);
      }
      rule(11, fields <= 20, c + " has fields: " + fields);
    }
  }

  // All is made in the constructor; the dearest calls make nothing more.
  private static void room() {
    com.sun.management.ThreadMXBean threads =
        (com.sun.management.ThreadMXBean) ManagementFactory.getThreadMXBean();
    if (!threads.isThreadAllocatedMemorySupported()) return;
    long id = Thread.currentThread().getId();
    CommitPrefixes x = new CommitPrefixes();
    dearCalls(x, 60);
    threads.getThreadAllocatedBytes(id);
    long ahead = threads.getThreadAllocatedBytes(id);
    CommitPrefixes y = new CommitPrefixes();
    long made = threads.getThreadAllocatedBytes(id);
    dearCalls(y, 60);
    long behind = threads.getThreadAllocatedBytes(id);
    rule(12, made - ahead < 80_000, "an object takes bytes: " + (made - ahead));
    rule(12, behind - made < 4_000, "calls take bytes: " + (behind - made));
  }

  private static void dearCalls(CommitPrefixes x, int times) {
    x.row(0, 0, 5);
    String plain = "plain";
    for (int i = 0; i < 5; i++) x.set(0, i, plain.charAt(i));
    for (int i = 0; i < times; i++) {
      x.lose(i % 60, i % 2 == 0);
      x.harm(0);
      x.block(1);
      x.spared();
      x.row(1, 3, 160);
      x.read(0);
      x.show(2, 0);
      x.image();
      x.restore();
    }
  }
}
