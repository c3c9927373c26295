import java.util.ArrayList;
import java.util.List;

// REFUSALS (all promises) and status (promise 34): the number that is answered, the order in which they
// fit, that nothing changes but how many there were, and calls with the least and the greatest numbers.
public final class RefusalBoundariesTest extends Sentence {
  interface Call { long answer(CommitPrefixes x); }

  private static final int[] EDGES = {LOW, LOW + 1, -1000, -2, -1, 0, 1, 2, 3, 5, 7, 8, 29, 30, 59, 60, 61, 62, 159, 160, 161, 199, 200, FAR - 1, FAR};

  public static void main(String[] args) {
    ofShelves();
    ofSetups();
    ofRuns();
    ofJudging();
    statuses();
    shelvesThatHoldSomething();
    whatRefusesNothing();
    leastAndGreatest();
    manyCalls();
    end();
  }

  /** SHELVES: 0 bytes, 1 bytes, 2 longs, 3 a MESSAGE, 4 NOTHING, 5 ints (62), 6 a TEXT with a FAULT, 7 a MESSAGE. */
  private static CommitPrefixes rich() {
    CommitPrefixes x = of("sites 2;phases 3;wait 5;presume;no 4;lose 7;down 1 20 30;down 5 1 2");
    x.seed(-3);
    x.image();
    x.put(0, 4);
    x.vote(2, false);
    x.row(0, 0, 3);
    x.row(1, 0, 4);
    x.row(2, 3, 2);
    x.set(0, 0, 5);
    x.set(1, 1, 6);
    x.set(2, 1, 1L << 40);
    x.show(3, 0);
    x.row(5, 2, 62);
    write(x, 6, 0, "wait 1");
    x.read(6);
    x.show(7, 5);
    return x;
  }

  private static List<Long> all(CommitPrefixes x) {
    List<Long> seen = new ArrayList<>();
    for (int what = 0; what < 8; what++) seen.add((long) x.told(what));
    for (int s = 0; s < 8; s++) {
      seen.add((long) x.holds(s));
      for (int i = 0; i < 4; i++) seen.add(x.element(s, i));
      if (x.holds(s) >= 200) seen.add((long) x.says(s, 0));
    }
    seen.add((long) x.fault());
    seen.add((long) x.status(0));
    seen.add((long) x.sent(60));
    seen.add((long) x.quiet());
    return seen;
  }

  private static List<Long> imageOf(CommitPrefixes x) {
    x.restore();
    List<Long> seen = new ArrayList<>();
    for (int what = 0; what < 8; what++) seen.add((long) x.told(what));
    return seen;
  }

  private static void refused(String call, int number, Call refusal) {
    test("REFUSALS", call + " answers " + number, () -> {
      CommitPrefixes x = rich();
      List<Long> ahead = all(x);
      int[] counts = new int[8];
      for (int k = 1; k <= 7; k++) counts[k] = x.status(10 + k);
      due(call, refusal.answer(x), number);
      counts[number < -10 ? -number - 10 : -number]++;
      for (int k = 1; k <= 7; k++) due("how many " + -k + " there were", x.status(10 + k), counts[k]);
      due("nothing changes", all(x).toString(), ahead.toString());
      due("nor THE IMAGE", imageOf(x).toString(), imageOf(rich()).toString());
    });
  }

  private static void ofShelves() {
    refused("row(8, 4, -1): no such SHELF is first", -1, x -> x.row(8, 4, -1));
    refused("row(-1, 0, 161): no such SHELF is first", -1, x -> x.row(-1, 0, 161));
    refused("row(0, 4, -1): a size below 0 is ahead of a SORT", -4, x -> x.row(0, 4, -1));
    refused("row(0, 4, 161): a SORT is ahead of too many", -6, x -> x.row(0, 4, 161));
    refused("row(0, -1, 3)", -6, x -> x.row(0, -1, 3));
    refused("row(0, 0, 161)", -7, x -> x.row(0, 0, 161));
    refused("row(3, 0, 161): on a MESSAGE", -7, x -> x.row(3, 0, 161));
    refused("set(8, 99, 1): no such SHELF is first", -1, x -> x.set(8, 99, 1));
    refused("set(3, 99, 1): a MESSAGE is ahead of no element", -2, x -> x.set(3, 99, 1));
    refused("set(4, 99, 1): NOTHING is ahead of no element", -3, x -> x.set(4, 99, 1));
    refused("set(0, 3, 1)", -5, x -> x.set(0, 3, 1));
    refused("set(0, -1, 1)", -5, x -> x.set(0, -1, 1));
    refused("copy(3, 8, ..): no such SHELF is first", -1, x -> x.copy(3, 8, -1, -1, -1));
    refused("copy(-1, 4, ..): no such SHELF is first", -1, x -> x.copy(-1, 4, -1, -1, -1));
    refused("copy(3, 4, ..): a MESSAGE is ahead of NOTHING", -2, x -> x.copy(3, 4, -1, -1, -1));
    refused("copy(4, 3, ..): a MESSAGE is ahead of NOTHING", -2, x -> x.copy(4, 3, -1, -1, -1));
    refused("copy(0, 2, ..): two SORTS are ahead of n below 0", -2, x -> x.copy(0, 2, -1, -1, -1));
    refused("copy(0, 2, ..): two SORTS are ahead of no element", -2, x -> x.copy(0, 2, 9, 9, 1));
    refused("copy(0, 4, ..): NOTHING is ahead of n below 0", -3, x -> x.copy(0, 4, -1, -1, -1));
    refused("copy(4, 0, ..): NOTHING is ahead of no element", -3, x -> x.copy(4, 0, 9, 9, 1));
    refused("copy(0, 1, -1, -1, -1): n below 0 is ahead of no element", -4, x -> x.copy(0, 1, -1, -1, -1));
    refused("copy(0, 1, 0, 0, 4): fewer in p", -5, x -> x.copy(0, 1, 0, 0, 4));
    refused("copy(1, 0, 0, 0, 4): fewer in q", -5, x -> x.copy(1, 0, 0, 0, 4));
    refused("show(8, -1): no such SHELF", -1, x -> x.show(8, -1));
    refused("show(0, 200): not SENT", -1, x -> x.show(0, 200));
    refused("show(3, -2): no such MESSAGE", -1, x -> x.show(3, -2));
    refused("says(8, 0)", -1, x -> x.says(8, 0));
    refused("says(0, 4): no such sort is ahead of a ROW", -1, x -> x.says(0, 4));
    refused("says(4, -1): no such sort is ahead of NOTHING", -1, x -> x.says(4, -1));
    refused("says(0, 0): a ROW", -2, x -> x.says(0, 0));
    refused("says(3, 1): PREPARE is no WORD", -2, x -> x.says(3, 1));
    refused("says(3, 2): PREPARE is no DECISION", -2, x -> x.says(3, 2));
    refused("says(3, 3): PREPARE is no ASK", -2, x -> x.says(3, 3));
    refused("says(4, 0): NOTHING", -3, x -> x.says(4, 0));
    refused("read(8)", -1, x -> x.read(8));
    refused("read(3): a MESSAGE", -2, x -> x.read(3));
    refused("read(4): NOTHING", -3, x -> x.read(4));
    refused("read(6): a FAULT, the same as the latest", -6, x -> x.read(6));
  }

  private static void ofSetups() {
    refused("put(4, 3)", -5, x -> x.put(4, 3));
    refused("put(-1, 99): another what is first", -5, x -> x.put(-1, 99));
    refused("put(0, 6)", -6, x -> x.put(0, 6));
    refused("put(1, 4)", -6, x -> x.put(1, 4));
    refused("put(2, 10)", -6, x -> x.put(2, 10));
    refused("put(3, 2)", -6, x -> x.put(3, 2));
    refused("vote(0, false)", -1, x -> x.vote(0, false));
    refused("vote(6, false)", -1, x -> x.vote(6, false));
    refused("lose(60, true)", -1, x -> x.lose(60, true));
    refused("lose(-1, true)", -1, x -> x.lose(-1, true));
    refused("lose(71, false): 71 less 64 is a LOSS", -1, x -> x.lose(71, false));
    refused("down(6, 5, 5): no such SITE is first", -1, x -> x.down(6, 5, 5));
    refused("down(1, 5, 5)", -6, x -> x.down(1, 5, 5));
    refused("down(1, 0, 61)", -6, x -> x.down(1, 0, 61));
    refused("down(5, -2, 3)", -6, x -> x.down(5, -2, 3));
    refused("told(8)", -5, x -> x.told(8));
    refused("told(-1)", -5, x -> x.told(-1));
    refused("drawn(0)", -6, x -> x.drawn(0));
    refused("drawn(21)", -6, x -> x.drawn(21));
    test("REFUSALS", "restore() ahead of any image() answers -6", () -> {
      CommitPrefixes x = of("sites 5;lose 3");
      List<Long> ahead = all(x);
      due("restore", x.restore(), -6);
      due("nothing changes", all(x).toString(), ahead.toString());
      due("status", x.status(16), 1);
      due("refusals", refusals(x), 1);
    });
  }

  private static void ofRuns() {
    refused("state(61, 5): no such SITE is first", -1, x -> x.state(61, 5));
    refused("state(61, 4)", -6, x -> x.state(61, 4));
    refused("state(-1, 0)", -6, x -> x.state(-1, 0));
    refused("decided(-1, -1): no such SITE is first", -1, x -> x.decided(-1, -1));
    refused("decided(61, 0)", -6, x -> x.decided(61, 0));
    refused("records(61, 5): no such SITE is first", -1, x -> x.records(61, 5));
    refused("records(-1, 4)", -6, x -> x.records(-1, 4));
    refused("record(5, 9): no such SITE is first", -1, x -> x.record(5, 9));
    refused("record(0, 9)", -5, x -> x.record(0, 9));
    refused("record(0, -1)", -5, x -> x.record(0, -1));
    refused("sent(61)", -6, x -> x.sent(61));
    refused("sent(-1)", -6, x -> x.sent(-1));
    refused("message(200, 0)", -5, x -> x.message(200, 0));
    refused("message(-1, 9): counted once", -5, x -> x.message(-1, 9));
    refused("message(0, 5)", -5, x -> x.message(0, 5));
    refused("alike(61)", -6, x -> x.alike(61));
    refused("alike(-1)", -6, x -> x.alike(-1));
    refused("harm(2)", -5, x -> x.harm(2));
    refused("harm(-1)", -5, x -> x.harm(-1));
    refused("block(2)", -5, x -> x.block(2));
    refused("block(-1)", -5, x -> x.block(-1));
    refused("recovery(5, -1): no such SITE is first", -1, x -> x.recovery(5, -1));
    refused("recovery(0, -1)", -5, x -> x.recovery(0, -1));
    refused("recovery(0, 9)", -5, x -> x.recovery(0, 9));
  }

  private static void ofJudging() {
    refused("judge(3, 5, -1): no such SITE is first", -11, x -> x.judge(3, 5, -1));
    refused("judge(8, 0, -1): no such SHELF is first", -11, x -> x.judge(8, 0, -1));
    refused("judge(8, 5, 99): counted once", -11, x -> x.judge(8, 5, 99));
    refused("judge(3, 0, -1): a MESSAGE is ahead of n below 0", -12, x -> x.judge(3, 0, -1));
    refused("judge(3, 0, 62): a MESSAGE is ahead of n above 61", -12, x -> x.judge(3, 0, 62));
    refused("judge(4, 0, -1): NOTHING is ahead of n below 0", -13, x -> x.judge(4, 0, -1));
    refused("judge(4, 0, 62): NOTHING is ahead of n above 61", -13, x -> x.judge(4, 0, 62));
    refused("judge(5, 0, -1)", -14, x -> x.judge(5, 0, -1));
    refused("judge(0, 0, 4)", -15, x -> x.judge(0, 0, 4));
    refused("judge(5, 0, 63): fewer elements are ahead of n above 61", -15, x -> x.judge(5, 0, 63));
    refused("judge(5, 0, 62)", -16, x -> x.judge(5, 0, 62));
  }

  private static void statuses() {
    for (int what : new int[] {LOW, -17, -1, 1, 2, 7, 8, 9, 10, 18, 19, 100, FAR}) {
      test(34, "NONE for another what: " + what, () -> due("status", rich().status(what), -1));
    }
    test(34, "11 to 17: 0 at first", () -> {
      for (int what = 11; what <= 17; what++) due("status(" + what + ")", fresh().status(what), 0);
    });
    Call[] calls = {
        x -> x.row(8, 0, 0), x -> x.says(0, 0), x -> x.read(4), x -> x.row(0, 0, -1),
        x -> x.told(8), x -> x.drawn(0), x -> x.row(0, 0, 161)};
    for (int k = 1; k <= 7; k++) {
      int of = k;
      test(34, "status(" + (10 + k) + "): REFUSALS -" + k + " alone, each of them", () -> {
        CommitPrefixes x = fresh();
        x.row(0, 0, 1);
        for (int i = 1; i <= 20; i++) {
          due("the call", calls[of - 1].answer(x), -of);
          due("status", x.status(10 + of), i);
          due("refusals", refusals(x), i);
        }
      });
    }
    test(34, "status refuses nothing", () -> {
      CommitPrefixes x = fresh();
      for (int what : EDGES) x.status(what);
      due("refusals", refusals(x), 0);
    });
  }

  private static void shelvesThatHoldSomething() {
    test(34, "SHELVES that hold something: 0", () -> due("status", fresh().status(0), 0));
    test(34, "SHELVES that hold something: 8", () -> {
      CommitPrefixes x = fresh();
      for (int s = 0; s < 8; s++) {
        due("ahead", x.status(0), s);
        if (s % 2 == 0) x.row(s, 0, 0); else x.show(s, 0);
      }
      due("status", x.status(0), 8);
    });
    test(34, "SHELVES that hold something: a ROW of 0 elements does", () -> {
      CommitPrefixes x = fresh();
      x.row(3, 0, 0);
      due("status", x.status(0), 1);
    });
    test(34, "SHELVES that hold something: another thing in one SHELF", () -> {
      CommitPrefixes x = fresh();
      x.row(3, 0, 0);
      x.row(3, 1, 5);
      x.show(3, 0);
      due("status", x.status(0), 1);
      x.show(3, -1);
      due("status", x.status(0), 0);
      x.show(3, -1);
      due("status", x.status(0), 0);
    });
  }

  private static void whatRefusesNothing() {
    test("REFUSALS", "a call that isn't refused counts none", () -> {
      CommitPrefixes x = rich();
      int ahead = refusals(x);
      x.row(0, 0, 3);
      x.set(0, 2, 1);
      x.copy(0, 1, 0, 0, 3);
      x.element(0, 9);
      x.show(4, 0);
      x.show(4, -1);
      x.holds(99);
      x.says(3, 0);
      x.fault();
      x.put(2, 4);
      x.vote(5, true);
      x.lose(59, true);
      x.down(5, -1, -9);
      x.told(7);
      x.state(60, 4);
      x.judge(0, 0, 3);
      x.drawn(20);
      x.seed(LOW);
      x.image();
      x.restore();
      x.status(99);
      due("refusals", refusals(x), ahead);
    });
    test("REFUSALS", "an answer of NONE is no REFUSAL: judge", () -> {
      CommitPrefixes x = fresh();
      x.row(0, 0, 0);
      due("judge", x.judge(0, 0, 0), -1);
      due("refusals", refusals(x), 0);
    });
    test("REFUSALS", "an answer below 0 is no REFUSAL: spared", () -> {
      CommitPrefixes x = of("sites 5;wait 2;no 2;down 4 2 5");
      due("spared", x.spared(), -4);
      due("refusals", refusals(x), 0);
    });
    test("REFUSALS", "an answer below 0 is no REFUSAL: seed and told(7)", () -> {
      CommitPrefixes x = fresh();
      x.seed(-6);
      due("told", x.told(7), -6);
      due("seed", x.seed(-7), -6);
      due("refusals", refusals(x), 0);
    });
  }

  private static void call(CommitPrefixes x, int which, int a, int b) {
    switch (which) {
      case 0: x.row(a, b, b); break;
      case 1: x.row(0, a, b); break;
      case 2: x.set(a, b, a); break;
      case 3: x.copy(a, b, a, b, a); break;
      case 4: x.copy(0, 1, a, b, b); break;
      case 5: x.copy(0, 1, a, a, b); break;
      case 6: x.element(a, b); break;
      case 7: x.show(a, b); break;
      case 8: x.says(a, b); break;
      case 9: x.put(a, b); break;
      case 10: x.down(a, b, a); break;
      case 11: x.down(1, a, b); break;
      case 12: x.state(a, b); break;
      case 13: x.decided(a, b); break;
      case 14: x.records(a, b); break;
      case 15: x.record(a, b); break;
      case 16: x.message(a, b); break;
      case 17: x.recovery(a, b); break;
      case 18: x.judge(a, b, b); break;
      case 19: x.judge(5, a, b); break;
      case 20: x.vote(a, b > 0); break;
      case 21: x.lose(a, b > 0); break;
      case 22: x.holds(a); x.read(b); break;
      case 23: x.told(a); x.sent(b); break;
      case 24: x.alike(a); x.status(b); break;
      case 25: x.harm(a); x.block(b); break;
      default: x.drawn(a); x.seed(b); break;
    }
  }

  // That no call throws shows in that this ends; the object answers as an object does behind it.
  private static void leastAndGreatest() {
    for (int which = 0; which <= 26; which++) {
      int of = which;
      test("REFUSALS", "no call throws, whatever the numbers: calls of kind " + which, () -> {
        for (int a : EDGES) {
          CommitPrefixes x = rich();
          for (int b : EDGES) call(x, of, a, b);
          due("image", x.image(), 1);
          due("restore", x.restore(), 1);
          due("n may be", x.put(0, 3) >= 1 ? 1 : 0, 1);
        }
      });
    }
  }

  private static void manyCalls() {
    test("What it is", "an object is used for at most 512 calls: the 512th", () -> {
      CommitPrefixes x = fresh();
      for (int i = 0; i < 510; i++) x.told(8);
      due("511th", x.status(15), 510);
      due("512th", x.sent(60), 12);
    });
    test("What it is", "512 calls that each make a new RUN", () -> {
      CommitPrefixes x = fresh();
      for (int i = 0; i < 255; i++) {
        x.put(0, 1 + i % 5);
        due("sent", x.sent(60), 4 * (1 + i % 5));
      }
    });
  }
}
