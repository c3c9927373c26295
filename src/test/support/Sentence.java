// What the tests of the document's boundary sentences share: each test bears the sentence that it
// is of, and stands alone with objects of its own. A test class extends it for the short names.
abstract class Sentence {
  interface Steps { void go(); }

  private static int tests = 0;
  private static int wrong = 0;
  private static String now = "";

  static final int FAR = Integer.MAX_VALUE;
  static final int LOW = Integer.MIN_VALUE;

  /** A test of its own; where is a promise's number or a part of the Terms. */
  static void test(String where, String sentence, Steps steps) {
    tests++;
    now = where + ", " + sentence;
    steps.go();
  }

  static void test(int promise, String sentence, Steps steps) {
    test("promise " + promise, sentence, steps);
  }

  static void due(String call, long got, long want) {
    if (got != want) {
      wrong++;
      System.out.println(now + ": " + call + " answered " + got + ", due is " + want);
    }
  }

  static void due(String call, String got, String want) {
    if (!got.equals(want)) {
      wrong++;
      System.out.println(now + ": " + call + " answered " + got + ", due is " + want);
    }
  }

  static void end() {
    System.out.println(tests + " tests, " + wrong + " answers not as due");
    if (wrong != 0 || tests == 0) System.exit(1);
  }

  static CommitPrefixes fresh() { return new CommitPrefixes(); }

  static void write(CommitPrefixes x, int s, int sort, String text) {
    x.row(s, sort, text.length());
    for (int i = 0; i < text.length(); i++) x.set(s, i, text.charAt(i));
  }

  /** A new object whose set-up is what a TEXT makes of that at first; its SHELVES hold NOTHING. */
  static CommitPrefixes of(String text) {
    CommitPrefixes x = fresh();
    write(x, 7, 0, text);
    due("read(" + text + ")", x.read(7) > 0 ? 1 : 0, 1);
    x.show(7, -1);
    return x;
  }

  /** The RECORDS of a SITE behind TICK 60, a digit each. */
  static String log(CommitPrefixes x, int site) {
    StringBuilder b = new StringBuilder();
    for (int i = 0; i < x.records(60, site); i++) b.append(x.record(site, i));
    return b.toString();
  }

  /** Which, from, to, TICK and FATE of a MESSAGE. */
  static String message(CommitPrefixes x, int m) {
    StringBuilder b = new StringBuilder();
    for (int what = 0; what < 5; what++) b.append(what == 0 ? "" : " ").append(x.message(m, what));
    return b.toString();
  }

  /** The STATES of a SITE behind TICKS from first to last, a digit each. */
  static String states(CommitPrefixes x, int site, int first, int last) {
    StringBuilder b = new StringBuilder();
    for (int t = first; t <= last; t++) b.append(x.state(t, site));
    return b.toString();
  }

  static int refusals(CommitPrefixes x) {
    int all = 0;
    for (int what = 11; what <= 17; what++) all += x.status(what);
    return all;
  }
}
