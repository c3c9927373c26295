// Each promise of the document: ordinary inputs, the edges that it names, wrong inputs.
public final class PromisesTest {
  private static int wrong = 0;
  private static int promise = 0;

  private static void due(String call, long got, long want) {
    if (got != want) {
      wrong++;
      System.out.println("promise " + promise + ": " + call + " answered " + got + ", due is " + want);
    }
  }

  private static CommitPrefixes fresh() { return new CommitPrefixes(); }

  private static void write(CommitPrefixes x, int s, int sort, String text) {
    x.row(s, sort, text.length());
    for (int i = 0; i < text.length(); i++) x.set(s, i, text.charAt(i));
  }

  private static CommitPrefixes of(String text) {
    CommitPrefixes x = fresh();
    write(x, 7, 0, text);
    if (x.read(7) < 1) { wrong++; System.out.println("not read: " + text); }
    x.show(7, -1);
    return x;
  }

  private static String log(CommitPrefixes x, int site) {
    StringBuilder b = new StringBuilder();
    for (int i = 0; i < x.records(60, site); i++) b.append(x.record(site, i));
    return b.toString();
  }

  private static void dueText(String call, String got, String want) {
    if (!got.equals(want)) {
      wrong++;
      System.out.println("promise " + promise + ": " + call + " answered " + got + ", due is " + want);
    }
  }

  public static void main(String[] args) {
    aNewObject();
    rows();
    sets();
    copies();
    elements();
    shows();
    holding();
    saying();
    texts();
    faults();
    puts();
    votes();
    losing();
    downs();
    telling();
    moments();
    logs();
    messages();
    alike();
    blockedAndQuiet();
    harmAndBlock();
    recovery();
    spared();
    judging();
    draws();
    images();
    statuses();
    twoPhases();
    threePhases();
    System.out.println(wrong == 0 ? "all promises hold" : wrong + " answers are not as due");
    if (wrong != 0) System.exit(1);
  }

  private static void aNewObject() {
    promise = 1;
    CommitPrefixes x = fresh();
    int[] first = {3, 2, 4, 0, 14, 0, 0, 1};
    for (int i = 0; i < 8; i++) due("told(" + i + ")", x.told(i), first[i]);
    for (int s = 0; s < 8; s++) due("holds", x.holds(s), -1);
    for (int i = 11; i <= 17; i++) due("status", x.status(i), 0);
    due("fault", x.fault(), -1);
    x.put(0, 5);
    due("votes of 1 to 5", x.told(4), 62);
    due("restore", x.restore(), -6);
  }

  private static void rows() {
    promise = 2;
    CommitPrefixes x = fresh();
    due("row", x.row(0, 0, 0), 1);
    due("row", x.row(7, 3, 160), 1);
    due("shelf below", x.row(-1, 9, -1), -1);
    due("shelf above", x.row(8, 0, 1), -1);
    due("size below, sort wrong", x.row(0, 9, -1), -4);
    due("sort 4, too many", x.row(0, 4, 161), -6);
    due("sort -1", x.row(0, -1, 1), -6);
    due("too many", x.row(0, 0, 161), -7);
    due("lowest size", x.row(0, 0, Integer.MIN_VALUE), -4);
    due("refused rows leave it", x.holds(0), 100);
    x.row(1, 2, 3);
    x.set(1, 2, 9);
    due("a row anew", x.row(1, 2, 3), 1);
    due("begins with 0", x.element(1, 2), 0);
    due("counted", x.status(11), 2);
    due("counted", x.status(14), 2);
    due("counted", x.status(16), 2);
    due("counted", x.status(17), 1);
  }

  private static void sets() {
    promise = 3;
    CommitPrefixes x = fresh();
    for (int sort = 0; sort < 4; sort++) {
      x.row(sort, sort, 2);
      due("set", x.set(sort, 1, 0x123456789ABCDEF0L), 1);
    }
    due("byte", x.element(0, 1), (byte) 0xF0);
    due("short", x.element(1, 1), (short) 0xDEF0);
    due("int", x.element(2, 1), 0x9ABCDEF0);
    due("long", x.element(3, 1), 0x123456789ABCDEF0L);
    due("no shelf", x.set(8, 9, 1), -1);
    x.show(4, 0);
    due("a message", x.set(4, 9, 1), -2);
    due("nothing", x.set(5, 9, 1), -3);
    due("below", x.set(0, -1, 1), -5);
    due("at the end", x.set(0, 2, 1), -5);
    due("far", x.set(0, Integer.MAX_VALUE, 1), -5);
  }

  private static void copies() {
    promise = 4;
    CommitPrefixes x = fresh();
    x.row(0, 2, 5);
    for (int i = 0; i < 5; i++) x.set(0, i, i + 1);
    x.row(1, 2, 3);
    due("copy", x.copy(0, 1, 2, 0, 3), 1);
    due("first", x.element(1, 0), 3);
    due("last", x.element(1, 2), 5);
    due("onto itself", x.copy(0, 0, 0, 1, 4), 1);
    long[] up = {1, 1, 2, 3, 4};
    for (int i = 0; i < 5; i++) due("moved up", x.element(0, i), up[i]);
    due("onto itself", x.copy(0, 0, 1, 0, 4), 1);
    long[] back = {1, 2, 3, 4, 4};
    for (int i = 0; i < 5; i++) due("moved back", x.element(0, i), back[i]);
    due("none at the ends", x.copy(0, 1, 5, 3, 0), 1);
    due("none beyond", x.copy(0, 1, 6, 0, 0), -5);
    due("none beyond", x.copy(0, 1, 0, 4, 0), -5);
    due("i below", x.copy(0, 1, -1, 0, 1), -5);
    due("j below", x.copy(0, 1, 0, -1, 1), -5);
    due("too long there", x.copy(0, 1, 0, 0, 4), -5);
    due("too long here", x.copy(1, 0, 0, 0, 4), -5);
    due("wraps", x.copy(0, 1, 1, 1, Integer.MAX_VALUE), -5);
    due("wraps", x.copy(0, 1, Integer.MAX_VALUE, Integer.MAX_VALUE, 1), -5);
    due("n below", x.copy(0, 1, -1, -1, -1), -4);
    due("q holds nothing", x.copy(0, 2, 0, 0, -1), -3);
    due("p holds nothing", x.copy(2, 0, 0, 0, -1), -3);
    x.row(3, 1, 3);
    due("two sorts", x.copy(0, 3, 0, 0, -1), -2);
    x.show(4, 0);
    due("a message", x.copy(0, 4, 0, 0, -1), -2);
    due("nothing and a message", x.copy(2, 4, 0, 0, -1), -2);
    due("a message and nothing", x.copy(4, 2, 0, 0, -1), -2);
    due("no shelf", x.copy(4, 8, 0, 0, -1), -1);
    due("no shelf", x.copy(-1, 4, 0, 0, -1), -1);
  }

  private static void elements() {
    promise = 5;
    CommitPrefixes x = fresh();
    x.row(0, 3, 2);
    x.set(0, 1, Long.MIN_VALUE);
    x.show(1, 0);
    due("element", x.element(0, 1), Long.MIN_VALUE);
    due("none there", x.element(0, 2), 0);
    due("none there", x.element(0, -1), 0);
    due("a message", x.element(1, 0), 0);
    due("nothing", x.element(2, 0), 0);
    due("no shelf", x.element(8, 0), 0);
    due("no shelf", x.element(-1, 0), 0);
    for (int i = 11; i <= 17; i++) due("nothing is refused", x.status(i), 0);
  }

  private static void shows() {
    promise = 6;
    CommitPrefixes x = fresh();
    due("show", x.show(0, 11), 1);
    due("holds ACK", x.holds(0), 208);
    due("not sent", x.show(0, 12), -1);
    due("below", x.show(0, -2), -1);
    due("no shelf", x.show(8, 0), -1);
    due("no shelf", x.show(8, -1), -1);
    due("stays", x.holds(0), 208);
    x.put(0, 1);
    due("as things were then", x.says(0, 0), 30);
    due("as things are now", x.show(1, 3), 1);
    due("as things are now", x.says(1, 0), 10);
    due("nothing", x.show(0, -1), 0);
    due("nothing", x.holds(0), -1);
    due("nothing again", x.show(0, -1), 0);
    x.row(2, 1, 4);
    due("in a row's place", x.show(2, 0), 1);
    due("in a row's place", x.holds(2), 201);
    due("counted", x.status(11), 4);
  }

  private static void holding() {
    promise = 7;
    CommitPrefixes x = fresh();
    for (int sort = 0; sort < 4; sort++) {
      x.row(sort, sort, 0);
      due("a row", x.holds(sort), 100 + sort);
    }
    x.show(4, 3);
    due("YES", x.holds(4), 202);
    due("nothing", x.holds(5), -1);
    due("no shelf", x.holds(-1), -1);
    due("no shelf", x.holds(8), -1);
    due("not refused", x.status(11), 0);
  }

  private static void saying() {
    promise = 8;
    CommitPrefixes x = fresh();
    x.show(0, 1);
    x.show(1, 4);
    x.show(2, 6);
    x.show(3, 9);
    due("PREPARE from 0 to 2", x.says(0, 0), 2);
    due("PREPARE is no word", x.says(0, 1), -2);
    due("YES from 2", x.says(1, 0), 20);
    due("YES", x.says(1, 1), 1);
    due("YES is no decision", x.says(1, 2), -2);
    due("YES is no ASK", x.says(1, 3), -2);
    due("COMMIT", x.says(2, 2), 1);
    due("COMMIT is no word", x.says(2, 1), -2);
    due("ACK", x.says(3, 1), 0);
    x.vote(1, false);
    x.show(4, 3);
    due("NO", x.says(4, 1), 0);
    x.show(5, 6);
    due("ABORT", x.says(5, 2), 2);
    CommitPrefixes y = of("sites 2;lose 4;lose 5");
    int asks = 0;
    for (int m = 0; m < y.sent(60); m++) {
      if (y.message(m, 0) == 9) {
        y.show(0, m);
        due("ASK", y.says(0, 3), y.message(m, 3));
        asks++;
      }
    }
    due("there are ASKs", asks > 0 ? 1 : 0, 1);
    CommitPrefixes z = of("phases 3");
    z.show(0, 9);
    due("PACK is a word", z.holds(0), 205);
    due("PACK is a word", z.says(0, 1), 0);
    x.row(6, 0, 1);
    due("a row", x.says(6, 0), -2);
    due("nothing", x.says(7, 0), -3);
    due("no shelf", x.says(8, 0), -1);
    due("no such as", x.says(7, 4), -1);
    due("no such as", x.says(6, -1), -1);
  }

  private static void texts() {
    promise = 9;
    CommitPrefixes x = fresh();
    for (int sort = 0; sort < 4; sort++) {
      write(x, 0, sort, "sites 4;phases 3;wait 9;no 2;no 5;lose 0;lose 59;down 5 0 60;down 0 59 60;presume");
      due("read", x.read(0), 10);
      due("n", x.told(0), 4);
      due("phases", x.told(1), 3);
      due("wait", x.told(2), 9);
      due("presumed", x.told(3), 1);
      due("votes", x.told(4), 0b11010);
      due("losses", x.told(5), 2);
      due("downs", x.told(6), 1);
      write(x, 0, sort, "plain;yes 2;keep 00;up 0;wait 02;sites 5");
      due("read", x.read(0), 6);
      due("plain", x.told(3), 0);
      due("votes", x.told(4), 0b011110);
      due("losses", x.told(5), 1);
      due("downs", x.told(6), 0b100000);
      due("wait", x.told(2), 2);
    }
    x.row(1, 3, 5);
    String plain = "plain";
    for (int i = 0; i < 5; i++) x.set(1, i, plain.charAt(i) + (7L << 32));
    due("lowest 32 bits of longs", x.read(1), 1);
    write(x, 0, 0, "sites 1;wait 1");
    due("nothing holds", x.read(0), -6);
    due("nothing holds", x.told(0), 5);
    x.show(2, 0);
    due("a message", x.read(2), -2);
    due("nothing", x.read(3), -3);
    due("no shelf", x.read(8), -1);
    due("the later holds", of("sites 2;sites 4;sites 1").told(0), 1);
    CommitPrefixes y = of("down 1 1 50;sites 1");
    due("the run is new", y.state(50, 1), 4);
  }

  private static void faultOf(String text, int want) {
    CommitPrefixes x = fresh();
    write(x, 0, 0, text);
    int answer = x.read(0);
    due("read(" + text + ")", answer < 0 ? -6 : 0, want < 0 ? 0 : -6);
    due("fault(" + text + ")", x.fault(), want);
  }

  private static void faults() {
    promise = 10;
    faultOf("", 0);
    faultOf(";", 0);
    faultOf(" plain", 0);
    faultOf("p", 1);
    faultOf("px", 1);
    faultOf("phasex 2", 5);
    faultOf("presumes", 7);
    faultOf("presume ;plain", 7);
    faultOf("plain;", 6);
    faultOf("plain;;plain", 6);
    faultOf("plain; plain", 6);
    faultOf("Plain", 0);
    faultOf("sites", 5);
    faultOf("sites ", 6);
    faultOf("sites  3", 6);
    faultOf("sites3", 5);
    faultOf("sites 0", 6);
    faultOf("sites 6", 6);
    faultOf("sites 12", 6);
    faultOf("sites 012", 8);
    faultOf("sites 05", -1);
    faultOf("sites x", 6);
    faultOf("sites -1", 6);
    faultOf("phases 1", 7);
    faultOf("phases 4", 7);
    faultOf("wait 1", 5);
    faultOf("wait 10", 5);
    faultOf("yes 0", 4);
    faultOf("no 6", 3);
    faultOf("lose 60", 5);
    faultOf("lose 591", 7);
    faultOf("lose 99x", 5);
    faultOf("keep 59", -1);
    faultOf("down 6 1 2", 5);
    faultOf("down 5 61 2", 7);
    faultOf("down 5 1 61", 9);
    faultOf("down 5 7 7", 9);
    faultOf("down 5 7 06", 9);
    faultOf("down 5 7 08", -1);
    faultOf("down 5 7", 8);
    faultOf("down 5", 6);
    faultOf("down 5 7 8 9", 10);
    faultOf("down 0 60 60", 10);
    faultOf("up 6", 3);
    faultOf("up 05", -1);
    faultOf("plain,plain", 5);
    faultOf("wait 2;wait", 11);
    CommitPrefixes x = fresh();
    write(x, 0, 0, "wait 1");
    x.read(0);
    due("fault", x.fault(), 5);
    x.read(5);
    x.read(9);
    x.show(1, 0);
    x.read(1);
    due("those came to no row", x.fault(), 5);
    x.image();
    x.restore();
    due("restore leaves it", x.fault(), 5);
    write(x, 0, 0, "wait 2");
    x.read(0);
    due("none", x.fault(), -1);
    x.row(2, 0, 3);
    x.set(2, 0, 'u' - 256);
    x.read(2);
    due("a byte keeps the lowest bits", x.fault(), 1);
    x.row(2, 1, 3);
    x.set(2, 0, 'u' - 256);
    x.read(2);
    due("a short keeps more of them", x.fault(), 0);
  }

  private static void puts() {
    promise = 11;
    CommitPrefixes x = fresh();
    due("n", x.put(0, 5), 3);
    due("n", x.put(0, 1), 5);
    due("n", x.put(0, 0), -6);
    due("n", x.put(0, 6), -6);
    due("n stays", x.told(0), 1);
    due("phases", x.put(1, 3), 2);
    due("phases", x.put(1, 2), 3);
    due("phases", x.put(1, 1), -6);
    due("phases", x.put(1, 4), -6);
    due("wait", x.put(2, 9), 4);
    due("wait", x.put(2, 2), 9);
    due("wait", x.put(2, 1), -6);
    due("wait", x.put(2, 10), -6);
    due("presumed", x.put(3, 1), 0);
    due("presumed", x.put(3, 0), 1);
    due("presumed", x.put(3, 2), -6);
    due("presumed", x.put(3, -1), -6);
    due("another", x.put(4, 99), -5);
    due("another", x.put(-1, 1), -5);
    due("counted", x.status(16), 8);
    due("counted", x.status(15), 2);
  }

  private static void votes() {
    promise = 12;
    CommitPrefixes x = fresh();
    due("vote", x.vote(5, false), 1);
    due("vote", x.vote(5, false), 0);
    due("vote", x.vote(1, true), 1);
    due("above n it doesn't count", x.told(4), 14);
    due("nor in a run", x.decided(60, 0), 1);
    x.put(0, 5);
    due("but is kept", x.told(4), 30);
    due("but is kept", x.decided(60, 0), 2);
    due("the coordinator", x.vote(0, true), -1);
    due("above", x.vote(6, true), -1);
  }

  private static void losing() {
    promise = 13;
    CommitPrefixes x = fresh();
    due("lose", x.lose(0, true), 0);
    due("lose", x.lose(0, true), 1);
    due("lose", x.lose(59, true), 0);
    due("losses", x.told(5), 2);
    due("it is lost", x.message(0, 4), 1);
    due("keep", x.lose(0, false), 1);
    due("keep", x.lose(0, false), 0);
    due("it arrives", x.message(0, 4), 0);
    due("losses", x.told(5), 1);
    due("below", x.lose(-1, true), -1);
    due("above", x.lose(60, true), -1);
    due("shifts don't wrap", x.lose(64, true), -1);
  }

  private static void downs() {
    promise = 14;
    CommitPrefixes x = fresh();
    due("down", x.down(5, 0, 60), 1);
    due("above n", x.told(6), 0);
    due("down", x.down(0, 59, 60), 1);
    due("bits", x.told(6), 1);
    due("none", x.down(0, -1, 99), 1);
    due("bits", x.told(6), 0);
    due("not above", x.down(0, 5, 5), -6);
    due("not above", x.down(0, 6, 5), -6);
    due("d below", x.down(0, -2, 5), -6);
    due("u above", x.down(0, 5, 61), -6);
    due("no d leaves room", x.down(0, 60, 60), -6);
    due("no site", x.down(6, 9, 5), -1);
    due("no site", x.down(-1, 1, 5), -1);
    x.put(0, 5);
    due("kept", x.told(6), 32);
    due("away", x.state(0, 5), 9);
    due("away", x.state(59, 5), 9);
    due("up and recovered", x.state(60, 5), 4);
  }

  private static void telling() {
    promise = 15;
    CommitPrefixes x = of("sites 2;no 1;down 2 3 4;down 3 3 4;lose 7;lose 8;lose 7;presume;wait 8;phases 3");
    x.seed(-9);
    int[] want = {2, 3, 8, 1, 4, 2, 4, -9};
    for (int i = 0; i < 8; i++) due("told(" + i + ")", x.told(i), want[i]);
    due("another", x.told(8), -5);
    due("another", x.told(-1), -5);
    due("counted", x.status(15), 2);
  }

  private static void moments() {
    promise = 16;
    CommitPrefixes x = fresh();
    due("state", x.state(0, 0), 1);
    due("state", x.state(60, 0), 5);
    due("no site, no tick", x.state(61, 4), -1);
    due("no site", x.state(0, -1), -1);
    due("no tick", x.state(61, 3), -6);
    due("no tick", x.state(-1, 3), -6);
    promise = 17;
    due("decided", x.decided(1, 0), 0);
    due("decided", x.decided(2, 0), 1);
    due("no site, no tick", x.decided(-1, 4), -1);
    due("no tick", x.decided(-1, 0), -6);
    CommitPrefixes y = of("sites 1;no 1;presume;down 0 9 20");
    due("presumed", y.decided(8, 0), 2);
    due("away, its log has nothing", y.decided(9, 0), 0);
    due("recovered", y.decided(20, 0), 2);
    due("no record of it", y.records(60, 0), 1);
    promise = 18;
    due("records", x.records(0, 1), 0);
    due("records", x.records(60, 1), 2);
    due("no site, no tick", x.records(61, 4), -1);
    due("no tick", x.records(61, 0), -6);
    promise = 20;
    int[] sent = {3, 6, 9, 12, 12};
    for (int t = 0; t < 5; t++) due("sent", x.sent(t), sent[t]);
    due("sent", x.sent(60), 12);
    due("no tick", x.sent(61), -6);
    due("no tick", x.sent(-1), -6);
  }

  private static void logs() {
    promise = 19;
    CommitPrefixes x = of("phases 3;sites 1");
    dueText("coordinator", log(x, 0), "1346");
    dueText("participant", log(x, 1), "234");
    due("behind the end", x.record(0, 4), -5);
    due("ahead of it", x.record(0, -1), -5);
    due("no site", x.record(2, 9), -1);
    due("no site", x.record(-1, 0), -1);
  }

  private static void messages() {
    promise = 21;
    CommitPrefixes x = of("sites 1;lose 1;down 1 9 20");
    int[][] want = {
      {1, 0, 1, 0, 0}, {2, 1, 0, 1, 1}, {7, 0, 1, 4, 0}, {8, 1, 0, 5, 0}};
    for (int m = 0; m < 4; m++) {
      for (int w = 0; w < 5; w++) due("message(" + m + ", " + w + ")", x.message(m, w), want[m][w]);
    }
    due("none such", x.message(4, 0), -5);
    due("none such", x.message(-1, 0), -5);
    due("another what", x.message(0, 5), -5);
    due("another what", x.message(0, -1), -5);
    due("counted", x.status(15), 4);
    CommitPrefixes y = of("sites 1;down 1 1 60");
    due("who should get it wasn't up", y.message(0, 4), 2);
    CommitPrefixes z = of("sites 2;lose 4;wait 4;down 0 3 60");
    int last = z.sent(60) - 1;
    due("sent at tick 60", z.message(last, 3), 60);
    due("sent at tick 60", z.message(last, 4), 3);
  }

  private static void alike() {
    promise = 22;
    CommitPrefixes x = fresh();
    for (int t = 0; t <= 60; t += 20) due("alike", x.alike(t), 1);
    due("no tick", x.alike(61), -6);
    due("no tick", x.alike(-1), -6);
    // 1 gets PRE and commits by itself, 2 waits for it in vain and aborts.
    CommitPrefixes y = of("phases 3;sites 2;lose 5;down 0 3 60");
    due("one committed, one aborted", y.alike(60), 0);
    due("not yet", y.alike(1), 1);
    due("committed", y.decided(60, 1), 1);
    due("aborted", y.decided(60, 2), 2);
  }

  private static void blockedAndQuiet() {
    promise = 23;
    due("nobody", fresh().blocked(), 0);
    CommitPrefixes x = of("down 0 2 60;lose 59");
    due("up to tick 59 away, COMMIT not decided", x.blocked(), 14);
    due("ABORT comes too late", x.state(60, 0), 4);
    CommitPrefixes y = of("down 0 2 60;down 2 58 60");
    due("2 is up again and READY", y.blocked(), 14);
    due("3-phase doesn't block", of("phases 3;down 0 2 60").blocked(), 0);
    promise = 24;
    due("quiet", fresh().quiet(), 4);
    due("quiet to the end", x.quiet(), 60);
    // a DOWN that comes late is a change of STATES, though no LOG changes
    due("late", of("down 1 40 50").quiet(), 50);
    due("nothing ever happens but to begin", of("presume;sites 1;no 1;down 0 0 1").quiet(), 2);
  }

  private static void harmAndBlock() {
    promise = 25;
    CommitPrefixes x = of("phases 3;sites 2;down 0 3 60");
    // MESSAGES: PREPARE 0 1, YES 2 3, PRE 4 5; either PRE lost parts the two.
    due("harm", x.harm(0), 1 << 4 | 1 << 5);
    due("harm", x.harm(1), 0);
    due("another part", x.harm(2), -5);
    due("another part", x.harm(-1), -5);
    x.lose(5, true);
    due("a LOSS is not told again, though it harms", x.harm(0) >> 5 & 1, 0);
    due("it is changed nowise", x.told(5), 1);
    promise = 26;
    CommitPrefixes y = of("sites 1;down 0 3 60");
    // PREPARE, YES, COMMIT: were YES or COMMIT lost, 1 would be READY still behind TICK 60.
    due("block", y.block(0) & 7, 1 << 1 | 1 << 2);
    due("block", y.block(1), 0);
    due("another part", y.block(2), -5);
    due("another part", y.block(-1), -5);
    due("counted", y.status(15), 2);
    for (int m = 2; m < 20; m++) y.lose(m, true);
    due("part 1 is of 30 to 59", y.block(1) >= 0 ? 1 : 0, 1);
  }

  private static void recovery() {
    promise = 27;
    CommitPrefixes x = of("phases 3;sites 1");
    int[] first = {4, 4, 2, 3, 5};
    for (int k = 0; k <= 4; k++) due("recovery(0, " + k + ")", x.recovery(0, k), first[k]);
    int[] second = {4, 1, 2, 3};
    for (int k = 0; k <= 3; k++) due("recovery(1, " + k + ")", x.recovery(1, k), second[k]);
    due("k above", x.recovery(0, 5), -5);
    due("k above", x.recovery(1, 4), -5);
    due("k below", x.recovery(1, -1), -5);
    due("no site", x.recovery(2, -1), -1);
    due("no site", x.recovery(-1, 0), -1);
    x.put(3, 1);
    due("presumed", x.recovery(0, 0), 5);
    due("presumed", x.recovery(0, 1), 5);
    due("a participant notes it", x.recovery(1, 0), 4);
    CommitPrefixes y = of("sites 1;no 1");
    due("ABORT", y.recovery(0, 2), 4);
    due("END", y.recovery(0, 3), 5);
    due("ABORT", y.recovery(1, 1), 4);
  }

  private static void spared() {
    promise = 28;
    due("COMMIT spares nothing", fresh().spared(), 0);
    CommitPrefixes x = of("no 1");
    due("three ACKs", x.spared(), 3);
    x.put(3, 1);
    due("the same, presumed or not", x.spared(), 3);
    due("it stays presumed", x.told(3), 1);
    due("the run is not the other", x.decided(60, 0), 2);
    due("the run is not the other", x.records(60, 0), 1);
  }

  private static void judging() {
    promise = 29;
    CommitPrefixes x = fresh();
    x.row(0, 2, 62);
    x.set(0, 0, 1);
    x.set(0, 1, 1);
    x.set(0, 2, 3);
    x.set(0, 3, 3);
    for (int t = 4; t <= 60; t++) x.set(0, t, 5);
    due("all so", x.judge(0, 0, 61), -1);
    due("none told", x.judge(0, 0, 0), -1);
    x.set(0, 60, 4);
    due("the last", x.judge(0, 0, 61), 60);
    due("ahead of it", x.judge(0, 0, 60), -1);
    due("of another", x.judge(0, 1, 61), 0);
    x.row(1, 3, 1);
    x.set(1, 0, 1L + (5L << 32));
    due("of longs the lowest 32 bits", x.judge(1, 0, 1), -1);
    x.show(2, 0);
    due("no site", x.judge(2, 4, -1), -11);
    due("no shelf", x.judge(8, 0, -1), -11);
    due("a message", x.judge(2, 0, -1), -12);
    due("nothing", x.judge(3, 0, -1), -13);
    due("n below", x.judge(0, 0, -1), -14);
    due("fewer", x.judge(1, 0, 62), -15);
    due("n above 61", x.judge(0, 0, 62), -16);
    int[] counts = {2, 1, 1, 1, 1, 1, 0};
    for (int i = 0; i < 7; i++) due("counted", x.status(11 + i), counts[i]);
  }

  private static void draws() {
    promise = 30;
    CommitPrefixes x = fresh();
    int seed = 1;
    boolean[] lost = new boolean[60];
    for (int i = 0; i < 20; i++) {
      seed = seed * 1103515245 + 12345;
      lost[(seed >>> 16) % 60] = true;
      int count = 0;
      for (boolean is : lost) if (is) count++;
      due("drawn(1)", x.drawn(1), count);
    }
    due("the seed goes on", x.told(7), seed);
    for (int m = 0; m < 60; m++) due("lost", x.lose(m, false), lost[m] ? 1 : 0);
    due("none", x.drawn(0), -6);
    due("too many", x.drawn(21), -6);
    due("below", x.drawn(-1), -6);
    due("refused draws draw nothing", x.told(7), seed);
    promise = 31;
    due("seed", x.seed(Integer.MIN_VALUE), seed);
    due("seed", x.seed(-1), Integer.MIN_VALUE);
    due("upper bits without sign", x.drawn(20) > 0 ? 1 : 0, 1);
    x.seed(5);
    for (int m = 0; m < 60; m++) x.lose(m, false);
    due("as the tests have it", x.drawn(20), 18);
  }

  private static void images() {
    promise = 32;
    CommitPrefixes x = of("sites 2;phases 3;wait 5;presume;no 1;no 5;lose 3;lose 40;down 1 2 3;down 4 5 6");
    x.seed(77);
    x.row(0, 0, 1);
    due("image", x.image(), 1);
    write(x, 1, 0, "sites 5;phases 2;wait 2;plain;yes 1;yes 5;keep 3;keep 40;up 1;up 4");
    x.read(1);
    x.seed(3);
    x.set(0, 0, 5);
    promise = 33;
    int committed = x.decided(60, 0);
    due("ahead of it", committed, 1);
    due("restore", x.restore(), 1);
    int[] want = {2, 3, 5, 1, 4, 2, 2, 77};
    for (int i = 0; i < 8; i++) due("told(" + i + ")", x.told(i), want[i]);
    due("the run, too", x.decided(60, 0), 2);
    due("shelves stay", x.element(0, 0), 5);
    due("shelves stay", x.status(0), 2);
    x.put(0, 5);
    due("above n, too", x.told(6), 0b10010);
    due("above n, too", x.told(4), 0b11100);
    due("again", x.restore(), 1);
    due("again", x.told(0), 2);
    CommitPrefixes y = fresh();
    due("no image", y.restore(), -6);
    y.image();
    y.restore();
    due("refusals stay", y.status(16), 1);
  }

  private static void statuses() {
    promise = 34;
    CommitPrefixes x = fresh();
    due("none", x.status(0), 0);
    x.row(0, 0, 0);
    x.show(1, 0);
    x.show(2, -1);
    due("two", x.status(0), 2);
    x.show(0, -1);
    due("one", x.status(0), 1);
    for (int what : new int[] {-1, 1, 7, 10, 18, Integer.MAX_VALUE, Integer.MIN_VALUE}) {
      due("another", x.status(what), -1);
    }
    for (int i = 11; i <= 17; i++) due("nothing was refused", x.status(i), 0);
    x.row(9, 0, 0);
    x.set(1, 0, 0);
    x.set(0, 0, 0);
    x.row(0, 0, -1);
    x.told(9);
    x.state(99, 0);
    x.row(0, 0, 999);
    for (int i = 11; i <= 17; i++) due("one of each", x.status(i), 1);
  }

  // Runs told by hand from part 2 of the document.

  private static void twoPhases() {
    promise = 16;
    CommitPrefixes no = of("sites 2;no 2");
    dueText("coordinator", log(no, 0), "156");
    dueText("1 was READY", log(no, 1), "25");
    dueText("2 said NO", log(no, 2), "5");
    due("PREPARE 2, YES, NO, ABORT 2, ACK 2", no.sent(60), 8);

    // READY 1 asks 0 and 2; 0 is away, 2 never got PREPARE: it aborts and answers.
    CommitPrefixes ask = of("sites 2;lose 1;down 0 1 60");
    due("1 asked", ask.message(3, 0), 9);
    due("1 asked 0", ask.message(3, 2), 0);
    due("0 was away", ask.message(3, 4), 2);
    due("1 asked 2", ask.message(4, 2), 2);
    due("2 answered ABORT", ask.message(5, 0), 7);
    due("2 answered at 6", ask.message(5, 3), 6);
    due("1 aborted at 7", ask.state(7, 1), 4);
    due("and sent ACK", ask.message(6, 0), 8);
    due("0 was away", ask.message(6, 4), 2);
    dueText("coordinator", log(ask, 0), "15");

    // COMMIT to 1 lost: it asks 0 (ENDED or not) and 2, and takes the first answer.
    CommitPrefixes late = of("sites 2;lose 4");
    due("1 asks at 5", late.message(7, 0), 9);
    due("1 asks at 5", late.message(7, 3), 5);
    due("it is committed at 7", late.state(6, 1), 1);
    due("it is committed at 7", late.state(7, 1), 3);
    due("0 ends at 8", late.state(8, 0), 5);

    // A participant that recovers READY asks at once.
    CommitPrefixes back = of("sites 1;down 1 2 10");
    due("COMMIT found it away", back.message(2, 4), 2);
    due("sent again at 6", back.message(3, 3), 6);
    due("it asks at 10", back.state(10, 1), 1);
    int asked = 0;
    for (int m = 0; m < back.sent(60); m++) {
      if (back.message(m, 0) == 9 && back.message(m, 3) == 10) asked++;
    }
    due("it asks at 10", asked, 1);
    due("committed at 11", back.state(11, 1), 3);

    // What is sent at 199 is the last.
    CommitPrefixes full = of("sites 5;wait 2;down 0 2 60");
    due("no more than 200", full.sent(60), 200);
    due("the last", full.message(199, 0), 9);
    due("none behind it", full.message(200, 0), -5);
  }

  private static void threePhases() {
    promise = 16;
    CommitPrefixes all = of("sites 2;phases 3");
    dueText("coordinator", log(all, 0), "1346");
    dueText("participant", log(all, 2), "234");
    due("PREPARE, YES, PRE, PACK, COMMIT, ACK, each twice", all.sent(60), 12);
    due("PRE", all.state(2, 0), 2);
    due("PRE", all.state(3, 1), 2);
    due("COMMITTED", all.state(4, 0), 3);

    // PACK of 1 lost: the coordinator waits till 6 and commits; 1 waits till 7.
    CommitPrefixes pack = of("sites 2;phases 3;lose 6");
    due("still PRE", pack.state(5, 0), 2);
    due("committed by the wait's end", pack.state(6, 0), 3);
    due("1 commits with COMMIT's coming", pack.state(7, 1), 3);
    due("at 6 not yet", pack.state(6, 1), 2);

    // The coordinator recovers in PRE and sends PRE again, which PRE answers with PACK.
    CommitPrefixes again = of("sites 1;phases 3;wait 9;down 0 3 5");
    dueText("coordinator", log(again, 0), "1346");
    due("PACK found it away", again.message(3, 4), 2);
    due("PRE again", again.message(4, 0), 4);
    due("PRE again at 5", again.message(4, 3), 5);
    due("PACK again at 6", again.message(5, 0), 5);
    due("committed at 7", again.state(7, 0), 3);

    // It recovers behind BEGIN: ABORT, though all were READY.
    CommitPrefixes begin = of("sites 1;phases 3;wait 9;down 0 2 4");
    dueText("coordinator", log(begin, 0), "156");
    dueText("participant", log(begin, 1), "25");

    // Away at 0 it never begins.
    CommitPrefixes never = of("sites 1;phases 3;down 0 0 4");
    dueText("coordinator", log(never, 0), "56");
    dueText("participant", log(never, 1), "5");
    due("ABORT, ACK", never.sent(60), 2);

    // It ends, goes away, and is ENDED again.
    CommitPrefixes end = of("sites 1;phases 3;down 0 20 30");
    due("ended", end.state(30, 0), 5);
    dueText("coordinator", log(end, 0), "1346");
    due("nothing is sent for it", end.sent(60), 6);
  }
}
