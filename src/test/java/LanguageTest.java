import java.lang.management.ManagementFactory;
import java.lang.reflect.Constructor;
import java.lang.reflect.Field;
import java.lang.reflect.Method;
import java.lang.reflect.Modifier;
import java.util.ArrayList;
import java.util.Arrays;
import java.util.List;
import java.util.Set;
import java.util.TreeSet;

// The face, as the compiled class has it, and the room that calls take; RulesTest has the other rules.
public final class LanguageTest {
  private static int wrong = 0;

  private static final Set<String> FACE = new TreeSet<>(Arrays.asList(
      "int row(int,int,int)", "int set(int,int,long)", "int copy(int,int,int,int,int)", "long element(int,int)",
      "int show(int,int)", "int holds(int)", "int says(int,int)", "int read(int)", "int fault()", "int put(int,int)",
      "int vote(int,boolean)", "int lose(int,boolean)", "int down(int,int,int)", "int told(int)", "int state(int,int)",
      "int decided(int,int)", "int records(int,int)", "int record(int,int)", "int sent(int)", "int message(int,int)",
      "int alike(int)", "int blocked()", "int quiet()", "int harm(int)", "int block(int)", "int recovery(int,int)",
      "int spared()", "int judge(int,int,int)", "int drawn(int)", "int seed(int)", "int image()", "int restore()",
      "int status(int)"));

  private static void rule(int number, boolean kept, String what) {
    if (!kept) {
      wrong++;
      System.out.println("rule " + number + ": " + what);
    }
  }

  public static void main(String[] args) throws Exception {
    face();
    room();
    System.out.println(wrong == 0 ? "the face and the room are kept" : wrong + " rules are broken");
    if (wrong != 0) System.exit(1);
  }

  private static String signature(Method m) {
    List<String> names = new ArrayList<>();
    for (Class<?> type : m.getParameterTypes()) names.add(type.getSimpleName());
    return m.getReturnType().getSimpleName() + " " + m.getName() + "(" + String.join(",", names) + ")";
  }

  private static void face() throws Exception {
    Class<?> c = CommitPrefixes.class;
    rule(1, Modifier.isFinal(c.getModifiers()) && Modifier.isPublic(c.getModifiers()), "public and final");
    Set<String> open = new TreeSet<>();
    Set<String> openNames = new TreeSet<>();
    for (Method m : c.getDeclaredMethods()) {
      if (Modifier.isPublic(m.getModifiers())) {
        open.add(signature(m));
        openNames.add(m.getName());
        rule(1, !Modifier.isStatic(m.getModifiers()) && m.getExceptionTypes().length == 0, "an object's call: " + m);
      }
      else rule(1, Modifier.isPrivate(m.getModifiers()) || m.isSynthetic(), "not private: " + m);
    }
    rule(1, open.equals(FACE), "the face is " + open);
    for (Field f : c.getDeclaredFields()) {
      boolean none = f.getName().equals("NONE");
      rule(1, none ? Modifier.isPublic(f.getModifiers()) : Modifier.isPrivate(f.getModifiers()) || f.isSynthetic(), "field " + f);
      rule(5, !Modifier.isStatic(f.getModifiers()) || Modifier.isFinal(f.getModifiers()), "field " + f);
    }
    Field none = c.getDeclaredField("NONE");
    int constant = Modifier.PUBLIC | Modifier.STATIC | Modifier.FINAL;
    rule(1, none.getType() == int.class && none.getModifiers() == constant && none.getInt(null) == -1, "NONE is " + none);
    rule(1, c.getPackageName().isEmpty(), "no package");
    Constructor<?>[] made = c.getDeclaredConstructors();
    rule(1, made.length == 1 && made[0].getParameterCount() == 0 && Modifier.isPublic(made[0].getModifiers()), "one constructor");
    List<Class<?>> all = new ArrayList<>(Arrays.asList(c.getDeclaredClasses()));
    all.add(c);
    for (Class<?> inside : all) {
      for (Method m : inside.getDeclaredMethods()) {
        boolean own = inside == c && Modifier.isPublic(m.getModifiers());
        rule(1, own || !openNames.contains(m.getName()), "a second " + m.getName() + " in " + inside);
      }
    }
  }

  // All is made in the constructor; the dearest calls make nothing more.
  private static void room() {
    com.sun.management.ThreadMXBean threads =
        (com.sun.management.ThreadMXBean) ManagementFactory.getThreadMXBean();
    if (!threads.isThreadAllocatedMemorySupported()) return;
    long id = Thread.currentThread().getId();
    CommitPrefixes x = new CommitPrefixes();
    dearCalls(x, 60);
    threads.getThreadAllocatedBytes(id);
    long ahead = threads.getThreadAllocatedBytes(id);
    CommitPrefixes y = new CommitPrefixes();
    long made = threads.getThreadAllocatedBytes(id);
    dearCalls(y, 60);
    long behind = threads.getThreadAllocatedBytes(id);
    rule(12, made - ahead < 80_000, "an object takes bytes: " + (made - ahead));
    rule(12, behind - made < 4_000, "calls take bytes: " + (behind - made));
  }

  private static void dearCalls(CommitPrefixes x, int times) {
    x.row(0, 0, 5);
    String plain = "plain";
    for (int i = 0; i < 5; i++) x.set(0, i, plain.charAt(i));
    for (int i = 0; i < times; i++) {
      x.lose(i % 60, i % 2 == 0);
      x.harm(0);
      x.block(1);
      x.spared();
      x.row(1, 3, 160);
      x.read(0);
      x.show(2, 0);
      x.image();
      x.restore();
    }
  }
}
