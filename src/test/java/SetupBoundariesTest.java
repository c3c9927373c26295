// THE SET-UP, DRAWS and THE IMAGE (promises 1, 11 to 15 and 30 to 33): each sentence that names a boundary.
public final class SetupBoundariesTest extends Sentence {
  private static final int[] AT_FIRST = {3, 2, 4, 0, 14, 0, 0, 1};

  public static void main(String[] args) {
    atFirst();
    puts();
    votes();
    losses();
    downs();
    aboveN();
    telling();
    draws();
    seeds();
    images();
    restores();
    end();
  }

  private static void dueTold(CommitPrefixes x, int... want) {
    for (int what = 0; what < want.length; what++) due("told(" + what + ")", x.told(what), want[what]);
  }

  private static void atFirst() {
    test(1, "Three PARTICIPANTS", () -> due("told", fresh().told(0), 3));
    test(1, "PHASES 2 (at first)", () -> due("told", fresh().told(1), 2));
    test(1, "WAIT 4 at first", () -> due("told", fresh().told(2), 4));
    test(1, "PRESUMED not at first", () -> due("told", fresh().told(3), 0));
    test(1, "VOTE yes (at first), of those above n too", () -> {
      CommitPrefixes x = fresh();
      due("told", x.told(4), 14);
      for (int p = 1; p <= 5; p++) due("vote", x.vote(p, true), 1);
    });
    test(1, "no LOSSES at first", () -> {
      CommitPrefixes x = fresh();
      due("told", x.told(5), 0);
      for (int m = 0; m < 60; m++) due("lose", x.lose(m, false), 0);
    });
    test(1, "no DOWN (at first), of those above n too", () -> {
      CommitPrefixes x = fresh();
      due("told", x.told(6), 0);
      x.put(0, 5);
      due("told", x.told(6), 0);
    });
    test(1, "SEED 1 at first", () -> due("told", fresh().told(7), 1));
    test(1, "no REFUSALS at first", () -> due("refusals", refusals(fresh()), 0));
    test(1, "one object doesn't change another", () -> {
      CommitPrefixes x = fresh();
      CommitPrefixes y = fresh();
      x.put(0, 5);
      x.lose(3, true);
      x.vote(1, false);
      x.row(0, 0, 4);
      x.told(9);
      dueTold(y, AT_FIRST);
      due("holds", y.holds(0), -1);
      due("refusals", refusals(y), 0);
    });
  }

  private static void mayBe(int what, int v, int was, boolean may) {
    test(11, "what " + what + ", v " + v + (may ? " may be" : " may not be"), () -> {
      CommitPrefixes x = fresh();
      due("put", x.put(what, v), may ? was : -6);
      due("told", x.told(what), may ? v : was);
      due("-6 is counted", x.status(16), may ? 0 : 1);
    });
  }

  private static void puts() {
    for (int v = 0; v <= 6; v++) mayBe(0, v, 3, v >= 1 && v <= 5);
    for (int v = 0; v <= 5; v++) mayBe(1, v, 2, v == 2 || v == 3);
    for (int v = 0; v <= 11; v++) mayBe(2, v, 4, v >= 2 && v <= 9);
    for (int v = -2; v <= 3; v++) mayBe(3, v, 0, v == 0 || v == 1);
    for (int what = 0; what <= 3; what++) {
      int was = AT_FIRST[what];
      mayBe(what, FAR, was, false);
      mayBe(what, LOW, was, false);
      mayBe(what, -1, was, false);
    }
    test(11, "what it was: behind a put, not at first", () -> {
      CommitPrefixes x = fresh();
      x.put(0, 5);
      due("put", x.put(0, 1), 5);
      x.put(1, 3);
      due("put", x.put(1, 2), 3);
      x.put(2, 9);
      due("put", x.put(2, 2), 9);
      x.put(3, 1);
      due("put", x.put(3, 0), 1);
      due("put", x.put(3, 1), 0);
    });
    test(11, "-5 another what: -1", () -> due("put", fresh().put(-1, 3), -5));
    test(11, "-5 another what: 4", () -> due("put", fresh().put(4, 3), -5));
    test(11, "-5 another what: the greatest and the least int", () -> {
      due("put", fresh().put(FAR, 3), -5);
      due("put", fresh().put(LOW, 3), -5);
    });
    test(11, "-5 ahead of -6", () -> due("put", fresh().put(4, -9), -5));
    test(11, "WAIT 2 in a run: TIMERS end two TICKS on", () -> {
      CommitPrefixes x = of("sites 1;wait 2;lose 0");
      due("states", states(x, 0, 0, 4), "11445");
    });
    test(11, "WAIT 9 in a run: TIMERS end nine TICKS on", () -> {
      CommitPrefixes x = of("sites 1;wait 9;lose 0");
      due("states", states(x, 0, 0, 11), "111111111445");
    });
    test(11, "n 1 in a run", () -> {
      CommitPrefixes x = of("sites 1");
      due("sent", x.sent(60), 4);
      due("END at 4", states(x, 0, 0, 4), "11335");
    });
    test(11, "n 5 in a run", () -> {
      CommitPrefixes x = of("sites 5");
      due("sent", x.sent(60), 20);
      due("END at 4", states(x, 0, 0, 4), "11335");
    });
  }

  private static void votes() {
    test(12, "a PARTICIPANT (1 to 5): 1", () -> due("vote", fresh().vote(1, false), 1));
    test(12, "a PARTICIPANT (1 to 5): 5, above n", () -> due("vote", fresh().vote(5, false), 1));
    test(12, "-1: 0, the COORDINATOR", () -> due("vote", fresh().vote(0, false), -1));
    test(12, "-1: 6", () -> due("vote", fresh().vote(6, false), -1));
    test(12, "-1: -1, the greatest and the least int", () -> {
      for (int p : new int[] {-1, FAR, LOW}) due("vote", fresh().vote(p, false), -1);
    });
    test(12, "what it was (1, 0)", () -> {
      CommitPrefixes x = fresh();
      due("vote", x.vote(2, true), 1);
      due("vote", x.vote(2, false), 1);
      due("vote", x.vote(2, false), 0);
      due("vote", x.vote(2, true), 0);
      due("vote", x.vote(2, true), 1);
    });
    test(12, "of that PARTICIPANT alone", () -> {
      CommitPrefixes x = of("sites 5");
      x.vote(3, false);
      due("told", x.told(4), 62 - 8);
    });
  }

  private static void losses() {
    test(13, "0 to 59: 0 and 59", () -> {
      CommitPrefixes x = fresh();
      due("lose", x.lose(0, true), 0);
      due("lose", x.lose(59, true), 0);
      due("told", x.told(5), 2);
    });
    test(13, "-1: 60", () -> due("lose", fresh().lose(60, true), -1));
    test(13, "-1: -1", () -> due("lose", fresh().lose(-1, true), -1));
    test(13, "-1: 64, whose bit is that of 0", () -> {
      CommitPrefixes x = fresh();
      due("lose", x.lose(64, true), -1);
      due("told", x.told(5), 0);
    });
    test(13, "-1: the greatest and the least int", () -> {
      due("lose", fresh().lose(FAR, true), -1);
      due("lose", fresh().lose(LOW, true), -1);
    });
    test(13, "whether it was (1, 0)", () -> {
      CommitPrefixes x = fresh();
      due("lose", x.lose(31, true), 0);
      due("lose", x.lose(31, true), 1);
      due("lose", x.lose(31, false), 1);
      due("lose", x.lose(31, false), 0);
    });
    test(13, "bits 31, 32 and 33 are three numbers", () -> {
      CommitPrefixes x = fresh();
      x.lose(32, true);
      due("lose", x.lose(0, false), 0);
      due("lose", x.lose(31, false), 0);
      due("lose", x.lose(33, false), 0);
      due("told", x.told(5), 1);
    });
    test(13, "all 60", () -> {
      CommitPrefixes x = fresh();
      for (int m = 0; m < 60; m++) due("lose", x.lose(m, true), 0);
      due("told", x.told(5), 60);
    });
    test(13, "a number that isn't SENT may be a LOSS", () -> {
      CommitPrefixes x = fresh();
      due("lose", x.lose(59, true), 0);
      due("sent", x.sent(60), 12);
      due("alike", x.decided(60, 3), 1);
    });
    test(13, "59 is lost in a run, 60 can't be", () -> {
      CommitPrefixes x = of("sites 5;wait 2;down 0 2 60;lose 59");
      due("FATE of 58", x.message(58, 4), 0);
      due("FATE of 59", x.message(59, 4), 1);
      due("FATE of 64", x.message(64, 4), 0);
    });
    test(13, "0 is lost in a run, and not those whose bits are alike", () -> {
      CommitPrefixes x = of("sites 5;wait 2;down 0 6 60;lose 0");
      due("FATE of 0", x.message(0, 4), 1);
      for (int m = 1; m < 5; m++) due("FATE", x.message(m, 4), 0);
    });
  }

  private static void down(int d, int u, boolean may) {
    test(14, "from " + d + " to " + u + (may ? " may be" : " may not be"), () -> {
      CommitPrefixes x = fresh();
      due("down", x.down(1, d, u), may ? 1 : -6);
      due("told", x.told(6), may ? 2 : 0);
      due("-6 is counted", x.status(16), may ? 0 : 1);
    });
  }

  private static void downs() {
    down(0, 1, true);
    down(0, 60, true);
    down(59, 60, true);
    down(0, 0, false);
    down(1, 0, false);
    down(60, 60, false);
    down(60, 61, false);
    down(59, 61, false);
    down(0, 61, false);
    down(61, 62, false);
    down(30, 30, false);
    down(31, 30, false);
    down(5, -1, false);
    down(-2, 5, false);
    down(-2, -1, false);
    down(LOW, FAR, false);
    down(0, FAR, false);
    down(FAR, LOW, false);
    test(14, "d NONE: none: 1, whatever u is", () -> {
      for (int u : new int[] {-1, 0, 61, FAR, LOW}) {
        CommitPrefixes x = of("down 2 4 5");
        due("down", x.down(2, -1, u), 1);
        due("told", x.told(6), 0);
        due("it is UP", x.state(4, 2), 3);
      }
    });
    test(14, "d NONE where there was none", () -> due("down", fresh().down(2, -1, -1), 1));
    test(14, "a SITE (0 to 5): 0 and 5", () -> {
      due("down", fresh().down(0, 1, 2), 1);
      due("down", fresh().down(5, 1, 2), 1);
    });
    test(14, "-1: -1 and 6", () -> {
      due("down", fresh().down(-1, 1, 2), -1);
      due("down", fresh().down(6, 1, 2), -1);
    });
    test(14, "-1 of NONE, too", () -> due("down", fresh().down(6, -1, -1), -1));
    test(14, "-1 ahead of -6", () -> due("down", fresh().down(6, 5, 5), -1));
    test(14, "a later one is in the place of the one ahead", () -> {
      CommitPrefixes x = of("sites 1;down 1 4 6");
      x.down(1, 8, 9);
      due("states", states(x, 1, 3, 9), "3333393");
    });
    test(14, "a refused one leaves the one ahead", () -> {
      CommitPrefixes x = of("sites 1;down 1 4 6");
      x.down(1, 8, 8);
      due("states", states(x, 1, 3, 9), "3993333");
    });
    test(14, "from TICK d up to TICK u: 0 to 1", () -> due("states", states(of("down 1 0 1"), 1, 0, 1), "94"));
    test(14, "from TICK d up to TICK u: 59 to 60", () -> due("states", states(of("down 1 59 60"), 1, 58, 60), "393"));
    test(14, "from TICK d up to TICK u: 0 to 60", () -> {
      CommitPrefixes x = of("down 1 0 60");
      for (int t = 0; t < 60; t++) due("state", x.state(t, 1), 9);
      due("state", x.state(60, 1), 4);
    });
  }

  private static void aboveN() {
    String kept = "What a SITE above n has is kept, but doesn't count";
    test("THE SET-UP", kept + ": VOTE", () -> {
      CommitPrefixes x = of("no 4");
      due("told", x.told(4), 14);
      due("decided", x.decided(60, 0), 1);
      x.put(0, 4);
      due("told", x.told(4), 14);
      due("decided", x.decided(60, 0), 2);
      x.put(0, 3);
      due("decided", x.decided(60, 0), 1);
    });
    test("THE SET-UP", kept + ": DOWN", () -> {
      CommitPrefixes x = of("down 4 2 40");
      due("told", x.told(6), 0);
      due("quiet", x.quiet(), 4);
      due("sent", x.sent(60), 12);
      x.put(0, 4);
      due("told", x.told(6), 16);
      due("state", x.state(39, 4), 9);
      due("quiet", x.quiet(), 43);
    });
    test("THE SET-UP", kept + ": when n becomes less", () -> {
      CommitPrefixes x = of("sites 5;no 5;down 5 7 8;down 4 3 9");
      x.put(0, 1);
      due("VOTES", x.told(4), 2);
      due("DOWNS", x.told(6), 0);
      due("decided", x.decided(60, 0), 1);
      due("quiet", x.quiet(), 4);
      x.put(0, 5);
      due("VOTES", x.told(4), 30);
      due("DOWNS", x.told(6), 48);
    });
    test("THE SET-UP", kept + ": it gets no PREPARE", () -> {
      CommitPrefixes x = of("sites 2");
      for (int m = 0; m < x.sent(60); m++) due("to", x.message(m, 2) <= 2 ? 1 : 0, 1);
      due("sent", x.sent(60), 8);
    });
    test("THE SET-UP", kept + ": it isn't BLOCKED", () -> {
      CommitPrefixes x = of("sites 5;down 0 2 60");
      due("blocked", x.blocked(), 62);
      x.put(0, 2);
      due("blocked", x.blocked(), 6);
    });
    test("THE SET-UP", kept + ": it isn't ALIKE or otherwise", () -> {
      CommitPrefixes x = of("sites 2;phases 3;lose 5;down 0 3 60");
      due("alike", x.alike(60), 0);
      x.put(0, 1);
      due("alike", x.alike(60), 1);
    });
    test("THE SET-UP", kept + ": no STATE of it is told", () -> {
      CommitPrefixes x = of("sites 2;down 3 1 60");
      due("state", x.state(5, 3), -1);
      due("decided", x.decided(5, 3), -1);
      due("records", x.records(5, 3), -1);
      due("record", x.record(3, 0), -1);
      due("recovery", x.recovery(3, 0), -1);
      x.row(0, 0, 1);
      due("judge", x.judge(0, 3, 0), -11);
    });
  }

  private static void telling() {
    test(15, "-5: -1", () -> due("told", fresh().told(-1), -5));
    test(15, "-5: 8", () -> due("told", fresh().told(8), -5));
    test(15, "-5: the greatest and the least int", () -> {
      due("told", fresh().told(FAR), -5);
      due("told", fresh().told(LOW), -5);
    });
    test(15, "yes VOTES: bits 1 to n, n 1 and n 5", () -> {
      due("told", of("sites 1").told(4), 2);
      due("told", of("sites 5").told(4), 62);
    });
    test(15, "yes VOTES: none", () -> due("told", of("sites 5;no 1;no 2;no 3;no 4;no 5").told(4), 0));
    test(15, "LOSSES: 0 and 60", () -> {
      CommitPrefixes x = fresh();
      due("told", x.told(5), 0);
      for (int m = 0; m < 60; m++) x.lose(m, true);
      due("told", x.told(5), 60);
    });
    test(15, "SITES 0 to n with a DOWN: all", () -> {
      CommitPrefixes x = of("down 0 1 2;down 1 1 2;down 2 1 2;down 3 1 2;down 4 1 2;down 5 1 2");
      due("n 3", x.told(6), 15);
      x.put(0, 1);
      due("n 1", x.told(6), 3);
      x.put(0, 5);
      due("n 5", x.told(6), 63);
    });
    test(15, "SEED: the least int", () -> {
      CommitPrefixes x = fresh();
      x.seed(LOW);
      due("told", x.told(7), LOW);
      due("nothing was refused", x.status(15), 0);
    });
  }

  private static void draws() {
    test(30, "n (1 to 20): 0", () -> due("drawn", fresh().drawn(0), -6));
    test(30, "n (1 to 20): 1", () -> due("drawn", fresh().drawn(1), 1));
    test(30, "n (1 to 20): 20", () -> {
      CommitPrefixes x = fresh();
      x.seed(5);
      due("drawn", x.drawn(20), 18);
    });
    test(30, "n (1 to 20): 21", () -> due("drawn", fresh().drawn(21), -6));
    test(30, "n (1 to 20): -1, the greatest and the least int", () -> {
      for (int n : new int[] {-1, FAR, LOW}) due("drawn", fresh().drawn(n), -6);
    });
    test(30, "a refused call draws nothing", () -> {
      CommitPrefixes x = fresh();
      x.drawn(0);
      x.drawn(21);
      due("SEED", x.told(7), 1);
      due("LOSSES", x.told(5), 0);
    });
    test(30, "20 draws go as far as 20 times one", () -> {
      CommitPrefixes x = fresh();
      CommitPrefixes y = fresh();
      x.drawn(20);
      for (int i = 0; i < 20; i++) y.drawn(1);
      due("SEED", x.told(7), y.told(7));
      due("LOSSES", x.told(5), y.told(5));
      for (int m = 0; m < 60; m++) due("lose", x.lose(m, true), y.lose(m, true));
    });
    test(30, "how many LOSSES there are, with those ahead", () -> {
      CommitPrefixes x = of("lose 1;lose 2");
      due("drawn", x.drawn(1), 3);
    });
    test(30, "a DRAW that is a LOSS already", () -> {
      CommitPrefixes x = of("lose 38");
      due("drawn", x.drawn(1), 1);
      due("SEED", x.told(7), 1103527590);
    });
    test(30, "a DRAW when all are LOSSES", () -> {
      CommitPrefixes x = fresh();
      for (int m = 0; m < 60; m++) x.lose(m, true);
      due("drawn", x.drawn(20), 60);
    });
    draw(1, 1103527590, 38);
    draw(1103527590, -1770082073, 6);
    draw(0, 12345, 0);
    draw(FAR, 1043980748, 29);
    draw(LOW, -2147471303, 8);
    draw(-1, -1103502900, 37);
    // these come to upper bits of 65535, 59 and 60
    draw(286434947, -65536, 15);
    draw(1019127427, 59 << 16, 59);
    draw(673425027, 60 << 16, 0);
    test(30, "the RUN is that with the new LOSSES", () -> {
      CommitPrefixes x = fresh();
      x.seed(0);
      due("FATE", x.message(0, 4), 0);
      x.drawn(1);
      due("FATE", x.message(0, 4), 1);
    });
  }

  /** By hand: v times 1103515245 and 12345, modulo 2 to the 32nd; the upper 16 bits, modulo 60. */
  private static void draw(int v, int next, int loss) {
    test(30, "SEED (an int, wrapping), its upper 16 bits, no sign: from " + v, () -> {
      CommitPrefixes x = fresh();
      x.seed(v);
      due("drawn", x.drawn(1), 1);
      due("SEED", x.told(7), next);
      due("lose(" + loss + ")", x.lose(loss, true), 1);
    });
  }

  private static void seeds() {
    test(31, "what it was: 1 at first", () -> due("seed", fresh().seed(9), 1));
    test(31, "nothing is refused: the least and the greatest int, 0, -1", () -> {
      CommitPrefixes x = fresh();
      x.seed(LOW);
      due("seed", x.seed(FAR), LOW);
      due("seed", x.seed(0), FAR);
      due("seed", x.seed(-1), 0);
      due("seed", x.seed(-7), -1);
      due("refusals", refusals(x), 0);
    });
    test(31, "what it was: behind a DRAW", () -> {
      CommitPrefixes x = fresh();
      x.drawn(1);
      due("seed", x.seed(1), 1103527590);
    });
    test(31, "the LOSSES stay", () -> {
      CommitPrefixes x = of("lose 4");
      x.seed(9);
      due("told", x.told(5), 1);
    });
  }

  private static final String FULL = "sites 2;phases 3;wait 5;presume;no 1;no 5;lose 0;lose 59;down 0 2 3;down 5 58 60";
  private static final String OTHER = "sites 5;phases 2;wait 9;plain;yes 1;yes 5;keep 0;keep 59;up 0;up 5;lose 1;down 1 7 8";

  private static CommitPrefixes changed() {
    CommitPrefixes x = of(FULL);
    x.seed(-5);
    due("image", x.image(), 1);
    write(x, 0, 0, OTHER);
    due("read", x.read(0), 12);
    x.seed(6);
    return x;
  }

  private static void images() {
    test(32, "THE IMAGE of all: n, PHASES, WAIT, PRESUMED, VOTES, LOSSES, DOWNS, SEED", () -> {
      CommitPrefixes x = changed();
      dueTold(x, 5, 2, 9, 0, 62, 1, 2, 6);
      x.restore();
      dueTold(x, 2, 3, 5, 1, 4, 2, 1, -5);
    });
    test(32, "THE IMAGE of all: what SITES above n have", () -> {
      CommitPrefixes x = changed();
      x.restore();
      x.put(0, 5);
      due("VOTES", x.told(4), 62 - 2 - 32);
      due("DOWNS", x.told(6), 33);
      due("from 58", x.state(57, 5) == 9 ? 1 : 0, 0);
      due("from 58", x.state(58, 5), 9);
      due("to 60", x.state(59, 5), 9);
    });
    test(32, "THE IMAGE of all: which LOSSES", () -> {
      CommitPrefixes x = changed();
      x.restore();
      due("0", x.lose(0, true), 1);
      due("59", x.lose(59, true), 1);
      due("1", x.lose(1, true), 0);
    });
    test(32, "THE IMAGE of all: from and up to which TICK", () -> {
      CommitPrefixes x = changed();
      x.restore();
      due("0 is UP at 1", x.state(1, 0), 1);
      due("0 is away at 2", x.state(2, 0), 9);
      due("0 is UP at 3", x.state(3, 0), 5);
    });
    test(32, "a later IMAGE is in the place of the one ahead", () -> {
      CommitPrefixes x = fresh();
      x.image();
      x.put(0, 5);
      due("image", x.image(), 1);
      x.put(0, 1);
      x.restore();
      due("told", x.told(0), 5);
    });
    test(32, "nothing that is done behind it changes it", () -> {
      CommitPrefixes x = fresh();
      x.image();
      x.drawn(20);
      x.down(1, 2, 3);
      x.vote(1, false);
      x.restore();
      dueTold(x, AT_FIRST);
    });
    test(32, "of all but THE IMAGE: it is there still behind restore()", () -> {
      CommitPrefixes x = changed();
      x.restore();
      x.put(0, 4);
      due("restore", x.restore(), 1);
      due("told", x.told(0), 2);
    });
    test(32, "of all but REFUSALS", () -> {
      CommitPrefixes x = fresh();
      x.image();
      x.told(8);
      x.restore();
      due("status", x.status(15), 1);
    });
    test(32, "of all but the FAULT", () -> {
      CommitPrefixes x = fresh();
      x.image();
      write(x, 0, 0, "wait 1");
      x.read(0);
      x.restore();
      due("fault", x.fault(), 5);
      x.image();
      write(x, 0, 0, "wait 2");
      x.read(0);
      x.restore();
      due("fault", x.fault(), -1);
    });
  }

  private static void restores() {
    test(33, "-6 there is none: ahead of any image()", () -> {
      CommitPrefixes x = of(FULL);
      due("restore", x.restore(), -6);
      dueTold(x, 2, 3, 5, 1, 4, 2, 1, 1);
      due("status", x.status(16), 1);
    });
    test(33, "-6 there is none: twice, then there is one", () -> {
      CommitPrefixes x = fresh();
      due("restore", x.restore(), -6);
      due("restore", x.restore(), -6);
      x.image();
      due("restore", x.restore(), 1);
      due("status", x.status(16), 2);
    });
    test(33, "SHELVES stay: a ROW that was set behind the IMAGE", () -> {
      CommitPrefixes x = fresh();
      x.row(0, 0, 2);
      x.image();
      x.set(0, 1, 7);
      x.row(1, 3, 1);
      x.restore();
      due("element", x.element(0, 1), 7);
      due("holds", x.holds(1), 103);
      due("status(0)", x.status(0), 2);
    });
    test(33, "SHELVES stay: a MESSAGE of a RUN that is no more", () -> {
      CommitPrefixes x = of("sites 1");
      x.image();
      x.put(0, 5);
      x.show(0, 19);
      x.restore();
      due("holds", x.holds(0), 208);
      due("says", x.says(0, 0), 50);
    });
    test(33, "SHELVES stay: NOTHING", () -> {
      CommitPrefixes x = fresh();
      x.row(0, 0, 2);
      x.image();
      x.show(0, -1);
      x.restore();
      due("holds", x.holds(0), -1);
    });
    test(33, "the RUN is that of THE IMAGE", () -> {
      CommitPrefixes x = of("no 1");
      x.image();
      x.vote(1, true);
      due("decided", x.decided(60, 0), 1);
      due("harm", x.harm(0), 0);
      x.restore();
      due("decided", x.decided(60, 0), 2);
      due("spared", x.spared(), 3);
    });
  }
}
