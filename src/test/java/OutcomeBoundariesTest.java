// WHAT COMES OF IT (promises 22 to 29): each sentence that names a boundary.
public final class OutcomeBoundariesTest extends Sentence {
  public static void main(String[] args) {
    alike();
    blocked();
    quiet();
    parts();
    harm();
    block();
    recovery();
    spared();
    judgedNumbers();
    judgedStates();
    judgeRefusals();
    nothingIsChanged();
    end();
  }

  private static void alike() {
    for (int t : new int[] {-1, 61, FAR, LOW}) {
      test(22, "t (0 to 60): -6 of " + t, () -> due("alike", fresh().alike(t), -6));
    }
    test(22, "TICK 0 and TICK 60", () -> {
      due("alike", fresh().alike(0), 1);
      due("alike", fresh().alike(60), 1);
    });
    // 2 aborts at 5, 0 commits at 6, 1 at 7
    String split = "sites 2;phases 3;lose 5";
    test(22, "no two SITES have DECIDED otherwise: one alone has DECIDED", () -> {
      CommitPrefixes x = of(split);
      due("2 has", x.decided(5, 2), 2);
      due("0 hasn't", x.decided(5, 0), 0);
      due("alike", x.alike(5), 1);
    });
    test(22, "no two SITES have DECIDED otherwise: the TICK at which a second does", () -> {
      CommitPrefixes x = of(split);
      due("alike", x.alike(6), 0);
      due("alike", x.alike(60), 0);
    });
    test(22, "no two SITES: the COORDINATOR and a PARTICIPANT", () -> {
      CommitPrefixes x = of("sites 1;phases 3;lose 2");
      due("0", x.decided(60, 0), 1);
      due("1", x.decided(60, 1), 2);
      due("alike", x.alike(60), 0);
    });
    test(22, "no two SITES: two PARTICIPANTS, the last is n", () -> {
      CommitPrefixes x = of("sites 5;phases 3;down 0 3 60;lose 14");
      due("1", x.decided(59, 1), 1);
      due("5", x.decided(59, 5), 2);
      due("0", x.decided(59, 0), 0);
      due("alike", x.alike(59), 0);
    });
    test(22, "DECIDED by one that isn't UP counts", () -> {
      CommitPrefixes x = of(split + ";down 2 6 60");
      due("state", x.state(7, 2), 9);
      due("alike", x.alike(7), 0);
    });
    test(22, "none has DECIDED", () -> due("alike", of("sites 1;down 0 0 60").alike(59), 1));
    test(22, "all ABORT, the COORDINATOR by presuming", () -> due("alike", of("no 1;presume").alike(60), 1));
  }

  private static void blocked() {
    test(23, "none", () -> due("blocked", fresh().blocked(), 0));
    test(23, "READY behind TICK 60: bits 1 to n, n 1", () -> due("blocked", of("sites 1;down 0 2 60").blocked(), 2));
    test(23, "READY behind TICK 60: bits 1 to n, n 5", () -> due("blocked", of("sites 5;down 0 2 60").blocked(), 62));
    test(23, "PRE behind TICK 60", () -> {
      CommitPrefixes x = of("sites 1;phases 3;down 0 3 60;down 1 4 57");
      due("TIMER 61", x.state(60, 1), 2);
      due("blocked", x.blocked(), 2);
    });
    test(23, "PRE up to TICK 59", () -> {
      CommitPrefixes x = of("sites 1;phases 3;down 0 3 60;down 1 4 56");
      due("TIMER 60", states(x, 1, 59, 60), "23");
      due("blocked", x.blocked(), 0);
    });
    test(23, "READY up to TICK 59", () -> {
      CommitPrefixes x = of("sites 1;down 0 2 59");
      due("ABORT arrives at 60", states(x, 1, 59, 60), "14");
      due("blocked", x.blocked(), 0);
    });
    test(23, "INIT isn't BLOCKED", () -> due("blocked", of("sites 2;down 0 0 60").blocked(), 0));
    test(23, "the COORDINATOR isn't, though it is PRE", () -> {
      CommitPrefixes x = of("sites 1;phases 3;down 0 3 60");
      due("PRE", x.state(60, 0), 2);
      due("blocked", x.blocked(), 0);
    });
    test(23, "COMMITTED and ABORTED aren't, beside one that is", () -> {
      CommitPrefixes x = of("sites 2;down 2 2 60;lose 5");
      due("1", x.state(60, 1), 3);
      due("2", x.state(60, 2), 1);
      due("blocked", x.blocked(), 4);
    });
    test(23, "UP again at 60 and READY", () -> due("blocked", of("sites 1;down 0 2 60;down 1 3 60").blocked(), 2));
  }

  private static void quiet() {
    test(24, "the least TICK: 1", () -> {
      CommitPrefixes x = of("sites 1;presume;down 0 0 1;lose 0");
      due("quiet", x.quiet(), 1);
    });
    test(24, "the least TICK: 60", () -> due("quiet", of("sites 1;down 1 0 60").quiet(), 60));
    test(24, "the least TICK: 59", () -> due("quiet", of("sites 1;down 1 0 59").quiet(), 59));
    test(24, "stay as they are: STATES that come again don't stay", () -> due("quiet", of("sites 1;down 1 9 10").quiet(), 10));
    test(24, "of all: the COORDINATOR", () -> {
      CommitPrefixes x = of("sites 1");
      due("1 at 3", x.state(3, 1), 3);
      due("quiet", x.quiet(), 4);
    });
    test(24, "of all: the last PARTICIPANT", () -> due("quiet", of("sites 5;down 5 30 31").quiet(), 31));
    test(24, "STATES and LOGS, not MESSAGES", () -> {
      // COMMIT at 2, 11, 20 and so on up to 56, each ACK lost
      CommitPrefixes x = of("sites 1;wait 9;lose 3;lose 5;lose 7;lose 9;lose 11;lose 13;lose 15");
      due("the last COMMIT", message(x, 14), "6 0 1 56 0");
      due("sent", x.sent(60), 16);
      due("quiet", x.quiet(), 3);
    });
    test(24, "STATES, though no LOG changes", () -> {
      CommitPrefixes x = of("sites 1;down 0 50 51");
      due("records", x.records(60, 0), x.records(4, 0));
      due("quiet", x.quiet(), 51);
    });
  }

  private static void parts() {
    for (int part : new int[] {-1, 2, FAR, LOW}) {
      test(25, "-5: part " + part, () -> {
        CommitPrefixes x = fresh();
        due("harm", x.harm(part), -5);
        due("status", x.status(15), 1);
      });
      test(26, "-5: part " + part, () -> {
        CommitPrefixes x = fresh();
        due("block", x.block(part), -5);
        due("status", x.status(15), 1);
      });
    }
    test(25, "parts 0 and 1", () -> {
      due("harm", fresh().harm(0), 0);
      due("harm", fresh().harm(1), 0);
    });
    test(26, "parts 0 and 1", () -> {
      due("block", fresh().block(0), 0);
      due("block", fresh().block(1), 0);
    });
  }

  /** The bits of a part as its words have it, each MESSAGE made a LOSS by hand. */
  private static int byHand(String text, int part, boolean harm) {
    CommitPrefixes x = of(text);
    int sent = x.sent(60);
    int bits = 0;
    for (int i = 0; i < 30; i++) {
      int m = 30 * part + i;
      if (x.lose(m, true) == 1 || m >= sent) continue;
      if (harm ? x.alike(60) == 0 : x.blocked() != 0) bits |= 1 << i;
      x.lose(m, false);
    }
    return bits;
  }

  private static void dueByHand(String text, boolean harm, int first, int second) {
    CommitPrefixes x = of(text);
    String call = harm ? "harm" : "block";
    due(call + "(0) by hand", byHand(text, 0, harm), first);
    due(call + "(1) by hand", byHand(text, 1, harm), second);
    due(call + "(0)", harm ? x.harm(0) : x.block(0), first);
    due(call + "(1)", harm ? x.harm(1) : x.block(1), second);
  }

  private static final int ALL = (1 << 30) - 1;

  private static void harm() {
    test(25, "MESSAGES 0 to 29: 29 is bit 29 of part 0", () ->
        dueByHand("sites 5;phases 3;wait 3;down 2 2 12", true, 1 << 29 | 0b111010000000000, 0));
    test(25, "30 to 59 less 30: 30 is bit 0 of part 1", () ->
        dueByHand("sites 2;phases 3;wait 2;down 2 3 47", true, 1 << 4, 1));
    test(25, "30 to 59 less 30: 59 is bit 29 of part 1, 60 has none", () -> {
      String text = "sites 5;phases 3;wait 2;down 1 2 54;down 5 3 29";
      due("sent", of(text).sent(60), 65);
      dueByHand(text, true, ALL - ((1 << 10) - 1), ALL);
      dueByHand(text + ";lose 59", true, ALL - ((1 << 10) - 1), ALL >> 1);
    });
    test(25, "no LOSSES: one that is a LOSS already has no bit", () -> {
      due("PRE to 2 harms", of("sites 2;phases 3;down 0 3 60").harm(0), 1 << 4 | 1 << 5);
      // PACK of 1 and the two PREs at 60 are left: it isn't ALIKE with or without them
      dueByHand("sites 2;phases 3;down 0 3 60;lose 5", true, 7 << 6, 0);
    });
    test(25, "that are SENT: those behind the last have no bits, though it isn't ALIKE", () -> {
      CommitPrefixes x = of("sites 3;phases 3;wait 3;lose 6");
      due("alike", x.alike(60), 0);
      due("sent", x.sent(60), 17);
      dueByHand("sites 3;phases 3;wait 3;lose 6", true, (1 << 17) - (1 << 7), 0);
    });
    test(25, "would make it not ALIKE: one whose loss mends it has no bit", () -> {
      CommitPrefixes x = of("sites 3;phases 3;wait 3;lose 6");
      due("bit 0", x.harm(0) & 1, 0);
      x.lose(0, true);
      due("alike", x.alike(60), 1);
    });
    test(25, "behind TICK 60: PHASES 2 never harm", () -> dueByHand("sites 5;wait 2;down 0 2 60", true, 0, 0));
    test(25, "MESSAGES SENT at TICK 60 harm nobody", () -> dueByHand("sites 1;down 0 0 60", true, 0, 0));
  }

  private static void block() {
    test(26, "MESSAGES 0 to 29: 29 is bit 29 of part 0", () ->
        dueByHand("sites 3;wait 3;down 2 2 60", false, 1 << 29 | 0b111101, 0));
    test(26, "30 to 59 less 30: 30 is bit 0 of part 1", () -> dueByHand("sites 1;wait 2;down 1 3 59", false, 0, 1));
    test(26, "30 to 59 less 30: 59 is bit 29 of part 1, 60 has none", () -> {
      CommitPrefixes x = of("sites 3;wait 9;lose 13;down 2 26 32;down 0 1 57");
      due("sent", x.sent(60), 63);
      dueByHand("sites 3;wait 9;lose 13;down 2 26 32;down 0 1 57", false, 0, 7 << 27);
    });
    test(26, "of 0 to 59: all but the PREPAREs, when they are BLOCKED anyhow", () ->
        dueByHand("sites 5;wait 2;down 0 2 60", false, ALL - 31, ALL));
    test(26, "no LOSSES: 58 and 59 have no bits when they are", () ->
        dueByHand("sites 5;wait 2;down 0 2 60;lose 58;lose 59", false, ALL - 31, ALL - (3 << 28)));
    test(26, "no LOSSES: 29 and 30 have no bits when they are", () ->
        dueByHand("sites 5;wait 2;down 0 2 60;lose 29;lose 30", false, ALL - 31 - (1 << 29), ALL - 1));
    test(26, "that are SENT: those behind the last have no bits", () -> {
      CommitPrefixes x = of("sites 1;down 0 2 60");
      due("blocked", x.blocked(), 2);
      // PREPARE, YES, ASKs at 5, 9 and so on up to 57, ABORT at 60
      due("sent", x.sent(60), 17);
      due("block", x.block(0), (1 << 17) - 2);
      due("block", x.block(1), 0);
    });
  }

  private static void dueRecovery(CommitPrefixes x, int site, String want) {
    StringBuilder b = new StringBuilder();
    for (int k = 0; k <= x.records(60, site); k++) b.append(x.recovery(site, k));
    due("recovery of " + site, b.toString(), want);
  }

  private static void recovery() {
    test(27, "-5 k below 0", () -> {
      due("recovery", fresh().recovery(0, -1), -5);
      due("recovery", fresh().recovery(3, LOW), -5);
    });
    test(27, "-5 k above how many it has", () -> {
      due("0 has 3", fresh().recovery(0, 3), 5);
      due("0 has 3", fresh().recovery(0, 4), -5);
      due("1 has 2", fresh().recovery(1, 2), 3);
      due("1 has 2", fresh().recovery(1, 3), -5);
      due("1 has 2", fresh().recovery(1, FAR), -5);
    });
    test(27, "k above how many it has: a LOG that has none", () -> {
      CommitPrefixes x = of("sites 1;down 0 0 60");
      due("recovery", x.recovery(1, 0), 4);
      due("recovery", x.recovery(1, 1), -5);
    });
    test(27, "-1 SITE: -1, n and one above it", () -> {
      due("recovery", fresh().recovery(-1, 0), -1);
      due("recovery", fresh().recovery(3, 0), 4);
      due("recovery", fresh().recovery(4, 0), -1);
      due("recovery", of("sites 5").recovery(6, 0), -1);
    });
    test(27, "-1 ahead of -5", () -> due("recovery", fresh().recovery(4, -1), -1));
    test(27, "COORDINATOR: none, BEGIN, COMMIT, END", () -> dueRecovery(of("sites 1"), 0, "4435"));
    test(27, "COORDINATOR: none, BEGIN, ABORT, END", () -> dueRecovery(of("sites 1;no 1"), 0, "4445"));
    test(27, "COORDINATOR: none, BEGIN, PRE, COMMIT, END", () -> dueRecovery(of("sites 1;phases 3"), 0, "44235"));
    test(27, "COORDINATOR, PRESUMED: none, BEGIN", () -> dueRecovery(of("sites 1;presume;no 1"), 0, "55"));
    test(27, "COORDINATOR, PRESUMED: none, BEGIN, PRE, COMMIT, END", () ->
        dueRecovery(of("sites 1;phases 3;presume"), 0, "55235"));
    test(27, "COORDINATOR: none, ABORT, END", () -> dueRecovery(of("sites 1;down 0 0 1"), 0, "445"));
    test(27, "PARTICIPANT: none, READY, COMMIT", () -> dueRecovery(of("sites 1"), 1, "413"));
    test(27, "PARTICIPANT: none, READY, ABORT", () -> dueRecovery(of("sites 2;no 2"), 1, "414"));
    test(27, "PARTICIPANT: none, ABORT", () -> dueRecovery(of("sites 2;no 2"), 2, "44"));
    test(27, "PARTICIPANT: none, READY, PRE, COMMIT: READY is READY, though its TIMER is t", () ->
        dueRecovery(of("sites 1;phases 3"), 1, "4123"));
    test(27, "PARTICIPANT, PRESUMED: none: ABORTED", () -> dueRecovery(of("sites 1;presume"), 1, "413"));
    test(27, "the LOG stays", () -> {
      CommitPrefixes x = of("sites 1;down 0 0 60");
      x.recovery(1, 0);
      due("records", x.records(60, 1), 0);
      due("state", x.state(60, 1), 0);
    });
  }

  private static void spared() {
    test(28, "0: a COMMIT", () -> due("spared", fresh().spared(), 0));
    test(28, "the ACKs of an ABORT", () -> {
      due("n 1", of("sites 1;no 1").spared(), 1);
      due("n 5", of("sites 5;no 1").spared(), 5);
    });
    test(28, "below 0: more are SENT, were ABORT PRESUMED", () -> {
      CommitPrefixes x = of("sites 5;wait 2;no 2;down 4 2 5");
      due("not PRESUMED", x.sent(60), 21);
      due("spared", x.spared(), -4);
      x.put(3, 1);
      due("PRESUMED", x.sent(60), 25);
      due("spared", x.spared(), -4);
    });
    test(28, "up to TICK 60: what is SENT at 60 counts", () -> {
      CommitPrefixes x = of("sites 1;down 0 0 59");
      due("ABORT at 59, ACK at 60", x.sent(60), 2);
      due("spared", x.spared(), 1);
    });
    test(28, "up to TICK 60: what would be SENT at 61 doesn't", () -> due("spared", of("sites 1;down 0 0 60").spared(), 0));
    test(28, "above 199 none are SENT, PRESUMED or not", () -> due("spared", of("sites 5;wait 2;down 0 2 60").spared(), 0));
    test(28, "PRESUMED or not, it is the same", () -> {
      CommitPrefixes x = of("no 1;presume");
      due("spared", x.spared(), 3);
      due("told", x.told(3), 1);
      x.put(3, 0);
      due("spared", x.spared(), 3);
    });
  }

  /** SHELF 0: the STATES of the COORDINATOR of a new object, behind TICKS 0 to 60, and more of the last. */
  private static CommitPrefixes teller(int sort, int size) {
    CommitPrefixes x = fresh();
    x.row(0, sort, size);
    int[] first = {1, 1, 3, 3};
    for (int t = 0; t < size; t++) x.set(0, t, t < 4 ? first[t] : 5);
    return x;
  }

  private static void judgedNumbers() {
    test(29, "n of 0: NONE", () -> due("judge", teller(0, 61).judge(0, 0, 0), -1));
    test(29, "n of 0 of a ROW of 0 elements: NONE", () -> due("judge", teller(0, 0).judge(0, 0, 0), -1));
    test(29, "n of 61: TICKS 0 to 60", () -> due("judge", teller(0, 61).judge(0, 0, 61), -1));
    test(29, "n of 61: the last is TICK 60", () -> {
      CommitPrefixes x = teller(0, 61);
      x.set(0, 60, 4);
      due("judge", x.judge(0, 0, 61), 60);
      due("judge", x.judge(0, 0, 60), -1);
    });
    test(29, "-16 n above 61: 62", () -> due("judge", teller(0, 62).judge(0, 0, 62), -16));
    test(29, "-16 n above 61: 160", () -> due("judge", teller(0, 160).judge(0, 0, 160), -16));
    test(29, "n of 61 of a longer ROW", () -> due("judge", teller(0, 160).judge(0, 0, 61), -1));
    test(29, "-15 fewer elements: n of 61, 60 elements", () -> due("judge", teller(0, 60).judge(0, 0, 61), -15));
    test(29, "-15 fewer elements: n of 1, 0 elements", () -> due("judge", teller(0, 0).judge(0, 0, 1), -15));
    test(29, "-15 ahead of -16: n of 62, 61 elements", () -> due("judge", teller(0, 61).judge(0, 0, 62), -15));
    test(29, "-15 ahead of -16: n of 161 and the greatest int", () -> {
      due("judge", teller(0, 160).judge(0, 0, 161), -15);
      due("judge", teller(0, 160).judge(0, 0, FAR), -15);
    });
    test(29, "-14 n: -1 and the least int", () -> {
      due("judge", teller(0, 61).judge(0, 0, -1), -14);
      due("judge", teller(0, 61).judge(0, 0, LOW), -14);
    });
  }

  private static void judgedStates() {
    test(29, "the first that isn't so: of two", () -> {
      CommitPrefixes x = teller(0, 61);
      x.set(0, 7, 3);
      x.set(0, 40, 3);
      due("judge", x.judge(0, 0, 61), 7);
    });
    test(29, "the first that isn't so: number 0", () -> {
      CommitPrefixes x = teller(0, 61);
      x.set(0, 0, 0);
      due("judge", x.judge(0, 0, 61), 0);
      due("judge", x.judge(0, 0, 1), 0);
    });
    test(29, "by the first n elements: one behind them isn't judged", () -> {
      CommitPrefixes x = teller(0, 61);
      x.set(0, 5, 9);
      due("judge", x.judge(0, 0, 5), -1);
      due("judge", x.judge(0, 0, 6), 5);
    });
    test(29, "a STATE of 9", () -> {
      CommitPrefixes x = of("down 1 0 60");
      x.row(0, 0, 61);
      for (int t = 0; t < 60; t++) x.set(0, t, 9);
      x.set(0, 60, 4);
      due("judge", x.judge(0, 1, 61), -1);
      x.set(0, 60, 9);
      due("judge", x.judge(0, 1, 61), 60);
    });
    for (int sort = 0; sort < 4; sort++) {
      int of = sort;
      test(29, "of SORT " + sort, () -> due("judge", teller(of, 61).judge(0, 0, 61), -1));
    }
    test(29, "All is read as ints: of longs the lowest 32 bits", () -> {
      CommitPrefixes x = teller(3, 61);
      x.set(0, 2, 3 + (1L << 32));
      due("judge", x.judge(0, 0, 61), -1);
      x.set(0, 2, 3 + (1L << 31));
      due("judge", x.judge(0, 0, 61), 2);
    });
    test(29, "All is read as ints: no fewer bits", () -> {
      CommitPrefixes x = teller(1, 61);
      x.set(0, 2, 3 + 256);
      due("a short", x.judge(0, 0, 61), 2);
      CommitPrefixes y = teller(2, 61);
      y.set(0, 2, 3 + 65536);
      due("an int", y.judge(0, 0, 61), 2);
      CommitPrefixes z = teller(0, 61);
      z.set(0, 2, 3 + 256);
      due("a byte keeps its lowest bits", z.judge(0, 0, 61), -1);
    });
    test(29, "of a SITE: n", () -> {
      CommitPrefixes x = teller(0, 61);
      int[] last = {0, 1, 1, 3};
      for (int t = 0; t < 61; t++) x.set(0, t, t < 4 ? last[t] : 3);
      due("judge", x.judge(0, 3, 61), -1);
      due("judge", x.judge(0, 0, 61), 0);
    });
    test(29, "the RUN as things are then", () -> {
      CommitPrefixes x = teller(0, 61);
      x.vote(1, false);
      due("judge", x.judge(0, 0, 61), 2);
    });
  }

  private static void judgeRefusals() {
    test(29, "-11 SHELF: -1 and 8", () -> {
      due("judge", teller(0, 61).judge(-1, 0, 1), -11);
      due("judge", teller(0, 61).judge(8, 0, 1), -11);
    });
    test(29, "-11 also SITE: -1, n and one above it", () -> {
      due("judge", teller(0, 61).judge(0, -1, 0), -11);
      due("judge", teller(0, 61).judge(0, 3, 0), -1);
      due("judge", teller(0, 61).judge(0, 4, 0), -11);
    });
    test(29, "-12 a MESSAGE", () -> {
      CommitPrefixes x = fresh();
      x.show(0, 0);
      due("judge", x.judge(0, 0, 0), -12);
    });
    test(29, "-13 NOTHING", () -> due("judge", fresh().judge(0, 0, 0), -13));
    test(29, "-11 ahead of -12: SITE", () -> {
      CommitPrefixes x = fresh();
      x.show(0, 0);
      due("judge", x.judge(0, 4, 0), -11);
    });
    test(29, "-11 ahead of -13: SITE", () -> due("judge", fresh().judge(0, 4, 0), -11));
    test(29, "-11 ahead of -14 and of -15", () -> {
      due("judge", teller(0, 1).judge(0, 4, -1), -11);
      due("judge", teller(0, 1).judge(0, 4, 2), -11);
      due("judge", teller(0, 1).judge(8, 0, -1), -11);
    });
    test(29, "-12 ahead of -14 and of -15", () -> {
      CommitPrefixes x = fresh();
      x.show(0, 0);
      due("judge", x.judge(0, 0, -1), -12);
      due("judge", x.judge(0, 0, 1), -12);
    });
    test(29, "-13 ahead of -14 and of -15", () -> {
      due("judge", fresh().judge(0, 0, -1), -13);
      due("judge", fresh().judge(0, 0, 1), -13);
    });
    test(29, "(counted as -1 to -6)", () -> {
      CommitPrefixes x = teller(0, 62);
      x.show(1, 0);
      int[][] calls = {{8, 0, 0}, {1, 0, 0}, {2, 0, 0}, {0, 0, -1}, {0, 0, 63}, {0, 0, 62}};
      for (int i = 0; i < 6; i++) {
        due("judge", x.judge(calls[i][0], calls[i][1], calls[i][2]), -11 - i);
        for (int what = 11; what <= 17; what++) due("status(" + what + ")", x.status(what), what <= 11 + i ? 1 : 0);
      }
    });
  }

  private static void nothingIsChanged() {
    test("WHAT COMES OF IT", "(nothing is changed)", () -> {
      CommitPrefixes x = of("sites 2;phases 3;wait 2;no 2;lose 5;down 1 3 9;presume");
      x.seed(4);
      x.row(0, 0, 1);
      x.state(60, 0);
      x.decided(60, 0);
      x.records(60, 0);
      x.record(0, 0);
      x.sent(60);
      x.message(0, 0);
      x.alike(60);
      x.blocked();
      x.quiet();
      x.harm(0);
      x.harm(1);
      x.block(0);
      x.block(1);
      x.recovery(0, 0);
      x.spared();
      x.judge(0, 0, 1);
      int[] want = {2, 3, 2, 1, 2, 1, 2, 4};
      for (int what = 0; what < 8; what++) due("told(" + what + ")", x.told(what), want[what]);
      due("status(0)", x.status(0), 1);
      due("refusals", refusals(x), 0);
    });
    test("WHAT COMES OF IT", "harm, block and spared leave the RUN as it is", () -> {
      CommitPrefixes x = of("sites 2;phases 3;down 0 3 60");
      int sent = x.sent(60);
      String first = states(x, 1, 0, 60);
      x.harm(0);
      x.block(1);
      x.spared();
      due("sent", x.sent(60), sent);
      due("states", states(x, 1, 0, 60), first);
      due("log", log(x, 1), "234");
    });
    test("WHAT COMES OF IT", "each change makes a new RUN: bits come and go", () -> {
      CommitPrefixes x = of("sites 2;phases 3;down 0 3 60");
      due("harm", x.harm(0), 48);
      due("block", x.block(0), 0);
      x.put(1, 2);
      due("harm", x.harm(0), 0);
      x.down(0, 2, 60);
      due("block", x.block(0) >> 2 & 3, 3);
      x.down(0, -1, 0);
      due("block", x.block(0), 0);
      x.put(1, 3);
      x.down(0, 3, 60);
      due("harm", x.harm(0), 48);
    });
    test("WHAT COMES OF IT", "each change makes a new RUN: put, vote, lose, down, drawn, restore", () -> {
      CommitPrefixes x = fresh();
      x.image();
      due("sent", x.sent(60), 12);
      x.put(0, 1);
      due("put", x.sent(60), 4);
      x.vote(1, false);
      due("vote", x.decided(60, 0), 2);
      x.lose(0, true);
      due("lose", x.message(0, 4), 1);
      x.lose(0, false);
      due("lose", x.message(0, 4), 0);
      x.down(1, 1, 2);
      due("down", x.message(0, 4), 2);
      x.down(1, -1, 0);
      due("down", x.message(0, 4), 0);
      x.seed(0);
      x.drawn(1);
      due("drawn", x.message(0, 4), 1);
      x.restore();
      due("restore", x.sent(60), 12);
    });
    test("WHAT COMES OF IT", "each change makes a new RUN: spared", () -> {
      CommitPrefixes x = fresh();
      due("spared", x.spared(), 0);
      x.vote(1, false);
      due("spared", x.spared(), 3);
      x.put(0, 1);
      due("spared", x.spared(), 1);
      x.vote(1, true);
      due("spared", x.spared(), 0);
    });
  }
}
