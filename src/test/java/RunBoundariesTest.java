// A RUN (part 2 of the document, told by promises 16 to 21): each sentence that names a boundary,
// with TICKS and numbers of MESSAGES reckoned by hand.
public final class RunBoundariesTest extends Sentence {
  private static final String RUN = "A RUN";

  public static void main(String[] args) {
    ticks();
    order();
    arrivals();
    numbers();
    whatIsKept();
    coordinatorCounts();
    coordinatorDecides();
    coordinatorWaits();
    coordinatorDoesNothing();
    asks();
    participantHears();
    participantWaits();
    decisionsHeard();
    coordinatorRecovers();
    participantRecovers();
    logs();
    fates();
    end();
  }

  private static void dueMessages(CommitPrefixes x, int first, String... want) {
    for (int i = 0; i < want.length; i++) due("message " + (first + i), message(x, first + i), want[i]);
  }

  private static void dueLogs(CommitPrefixes x, String... want) {
    for (int s = 0; s < want.length; s++) due("log of " + s, log(x, s), want[s]);
  }

  private static void ticks() {
    for (int t : new int[] {-1, 61, FAR, LOW}) {
      test(16, "t (0 to 60): -6 of " + t, () -> due("state", fresh().state(t, 0), -6));
      test(17, "t (0 to 60): -6 of " + t, () -> due("decided", fresh().decided(t, 0), -6));
      test(18, "t (0 to 60): -6 of " + t, () -> due("records", fresh().records(t, 0), -6));
      test(20, "t (0 to 60): -6 of " + t, () -> due("sent", fresh().sent(t), -6));
    }
    for (int site : new int[] {-1, 4, 6, FAR, LOW}) {
      test(16, "a SITE (0 to n): -1 of " + site, () -> due("state", fresh().state(0, site), -1));
      test(17, "a SITE (0 to n): -1 of " + site, () -> due("decided", fresh().decided(0, site), -1));
      test(18, "a SITE (0 to n): -1 of " + site, () -> due("records", fresh().records(0, site), -1));
      test(19, "a SITE (0 to n): -1 of " + site, () -> due("record", fresh().record(site, 0), -1));
    }
    test(16, "TICK 0", () -> due("state", fresh().state(0, 0), 1));
    test(16, "TICK 60", () -> due("state", fresh().state(60, 0), 5));
    test(17, "TICK 0", () -> due("decided", fresh().decided(0, 0), 0));
    test(17, "TICK 60", () -> due("decided", fresh().decided(60, 0), 1));
    test(18, "TICK 0", () -> due("records", fresh().records(0, 0), 1));
    test(18, "TICK 60", () -> due("records", fresh().records(60, 0), 3));
    test(20, "TICK 0", () -> due("sent", fresh().sent(0), 3));
    test(20, "TICK 60", () -> due("sent", fresh().sent(60), 12));
    test(16, "a SITE (0 to n): n, n 1 and n 5", () -> {
      due("state", of("sites 1").state(60, 1), 3);
      due("state", of("sites 1").state(60, 2), -1);
      due("state", of("sites 5").state(60, 5), 3);
      due("state", of("sites 5").state(60, 6), -1);
    });
    test(16, "-1 ahead of -6", () -> due("state", fresh().state(61, 4), -1));
    test(17, "-1 ahead of -6", () -> due("decided", fresh().decided(61, 4), -1));
    test(18, "-1 ahead of -6", () -> due("records", fresh().records(-1, -1), -1));
    test(RUN, "something happens at TICK 60 still", () -> {
      CommitPrefixes x = of("sites 1;down 0 0 59");
      due("ABORT arrives", states(x, 1, 59, 60), "04");
      due("ACK is SENT", x.sent(60) - x.sent(59), 1);
    });
  }

  private static void order() {
    test(RUN, "(a) SITES whose u is t are UP: not at the TICK ahead", () -> {
      CommitPrefixes x = of("sites 1;down 1 1 3");
      due("states", states(x, 1, 0, 3), "0994");
    });
    test(RUN, "(a) ahead of (c): who recovers at t gets what arrives at t", () -> {
      CommitPrefixes x = of("sites 1;down 1 0 1");
      due("PREPARE arrived", message(x, 0), "1 0 1 0 0");
      due("it was ABORTED by then", states(x, 1, 0, 1), "94");
      due("and said nothing", x.sent(1), 1);
    });
    test(RUN, "(b) ahead of (c): who goes down at t gets nothing at t", () -> {
      CommitPrefixes x = of("sites 1;down 1 1 9");
      due("PREPARE didn't arrive", message(x, 0), "1 0 1 0 2");
      due("records", x.records(8, 1), 0);
    });
    test(RUN, "(b) no more UP at d, UP at the TICK ahead", () -> {
      CommitPrefixes x = of("sites 1;down 1 2 9");
      due("PREPARE arrived", message(x, 0), "1 0 1 0 0");
      due("states", states(x, 1, 1, 2), "19");
    });
    test(RUN, "(b) ahead of (d): who goes down at t doesn't TIME OUT at t", () -> {
      CommitPrefixes x = of("sites 1;lose 0;down 0 4 9");
      due("records", x.records(4, 0), 1);
      due("records", x.records(8, 0), 1);
      due("records", x.records(9, 0), 2);
      due("sent", x.sent(8), 1);
    });
    test(RUN, "(a) ahead of (d): who recovers READY at t TIMES OUT at t", () -> {
      CommitPrefixes x = of("sites 1;down 1 2 10");
      due("sent", x.sent(10) - x.sent(9), 2);
      // COMMIT again at 6 and 10; the ASK of 1 stands behind it, for 0 comes first in (d)
      dueMessages(x, 3, "6 0 1 6 2", "6 0 1 10 0", "9 1 0 10 0");
    });
    test(RUN, "(c) ahead of (d): what arrives when a TIMER ends comes first", () -> {
      CommitPrefixes x = of("wait 2");
      due("YES at 2 is ahead of TIMER 2", x.decided(2, 0), 1);
      due("COMMIT at 3 is ahead of TIMER 3", x.sent(3), 12);
      due("ACK at 4 is ahead of TIMER 4", x.sent(60), 12);
    });
    test(RUN, "its TIMER is t or less: not at t - 1", () -> {
      CommitPrefixes x = of("sites 1;lose 0");
      due("states", states(x, 0, 3, 4), "14");
    });
    test(RUN, "at t 0 the COORDINATOR BEGINS", () -> {
      CommitPrefixes x = fresh();
      due("state", x.state(0, 0), 1);
      due("record", x.record(0, 0), 1);
      dueMessages(x, 0, "1 0 1 0 0", "1 0 2 0 0", "1 0 3 0 0");
    });
    test(RUN, "(b) ahead of that: down from 0 it never BEGINS", () -> {
      CommitPrefixes x = of("sites 1;down 0 0 1");
      due("sent", x.sent(0), 0);
      due("states", states(x, 0, 0, 1), "94");
      dueLogs(x, "56", "5");
    });
    test(RUN, "down from 1 it has begun", () -> {
      CommitPrefixes x = of("sites 1;down 0 1 2");
      due("sent", x.sent(0), 1);
      dueLogs(x, "156", "25");
    });
    test(RUN, "(a) ahead of (c): what is SENT by recovering has the lower numbers", () -> {
      CommitPrefixes x = of("sites 2;lose 1;down 0 2 6");
      dueMessages(x, 2, "2 1 0 1 2", "9 1 0 5 0", "9 1 2 5 0",
          "7 0 1 6 0", "7 0 2 6 0", "7 0 1 6 0", "7 2 1 6 0");
    });
    test(RUN, "(d) by numbers", () -> {
      CommitPrefixes x = of("sites 2;down 0 2 20");
      dueMessages(x, 4, "9 1 0 5 2", "9 1 2 5 0", "9 2 0 5 2", "9 2 1 5 0");
    });
    test(RUN, "(a) and (d) of all who recover at one TICK", () -> {
      CommitPrefixes x = of("sites 2;down 0 2 9;down 1 2 9;down 2 2 9");
      due("0", states(x, 0, 8, 9), "94");
      due("1", states(x, 1, 8, 10), "914");
      due("2", states(x, 2, 8, 10), "914");
      dueMessages(x, 4, "7 0 1 9 0", "7 0 2 9 0", "9 1 0 9 0", "9 1 2 9 0", "9 2 0 9 0", "9 2 1 9 0");
    });
  }

  private static void arrivals() {
    test(RUN, "MESSAGES SENT at t - 1 arrive at t, not ahead of it", () -> {
      CommitPrefixes x = of("sites 1");
      due("1", states(x, 1, 0, 3), "0113");
      due("0", states(x, 0, 0, 4), "11335");
    });
    test(RUN, "in the order in which they were SENT", () -> {
      // NO of 1 ahead of YES of 2: ABORT goes to 1, then to 2, once each
      CommitPrefixes x = of("sites 2;no 1");
      dueMessages(x, 2, "3 1 0 1 0", "2 2 0 1 0", "7 0 1 2 0", "7 0 2 2 0", "8 1 0 3 0", "8 2 0 3 0");
      due("sent", x.sent(60), 8);
    });
    test(RUN, "if they are no LOSSES", () -> {
      CommitPrefixes x = of("sites 1;lose 0");
      due("PREPARE", message(x, 0), "1 0 1 0 1");
      due("1", states(x, 1, 0, 5), "000004");
    });
    test(RUN, "a LOSS has its number all the same", () -> {
      CommitPrefixes x = of("lose 0;lose 1;lose 2");
      due("sent", x.sent(0), 3);
      due("the next", x.message(3, 0), 7);
    });
    test(RUN, "what was SENT to one that wasn't UP doesn't arrive later", () -> {
      CommitPrefixes x = of("sites 1;down 1 1 2");
      due("PREPARE", message(x, 0), "1 0 1 0 2");
      due("1 never was READY", log(x, 1), "5");
    });
    test(RUN, "who sent it needn't be UP any more", () -> {
      CommitPrefixes x = of("sites 1;down 1 2 9");
      due("YES", message(x, 1), "2 1 0 1 0");
      due("decided", x.decided(2, 0), 1);
    });
  }

  private static void numbers() {
    String many = "sites 5;wait 2;down 0 2 60";
    test(RUN, "above 199 none are SENT: 200 of them", () -> {
      CommitPrefixes x = of(many);
      due("sent", x.sent(16), 185);
      due("sent", x.sent(17), 200);
      due("sent", x.sent(18), 200);
      due("sent", x.sent(60), 200);
    });
    test(RUN, "above 199 none are SENT: 199 is, by 3 to 5", () -> due("message", message(of(many), 199), "9 3 5 17 0"));
    test(RUN, "above 199 none are SENT: 200 isn't", () -> due("message", of(many).message(200, 0), -5));
    test(RUN, "above 199 none are SENT: SITES go on acting", () -> {
      CommitPrefixes x = of(many);
      due("0 DECIDES ABORT at 60", x.state(60, 0), 4);
      due("and NOTES it", log(x, 0), "15");
      due("nobody hears of it", x.blocked(), 62);
    });
    test(RUN, "above 199 none are SENT: nor by one who recovers", () -> {
      CommitPrefixes x = of("sites 5;wait 2;down 0 2 40");
      due("ABORTED at 40", x.state(40, 0), 4);
      due("sent", x.sent(60), 200);
      due("state", x.state(60, 1), 1);
    });
    test(21, "-5 none such: the last and one behind it", () -> {
      CommitPrefixes x = fresh();
      due("message", x.message(11, 0), 8);
      due("message", x.message(12, 0), -5);
    });
    test(21, "-5 none such: -1, the greatest and the least int", () -> {
      for (int m : new int[] {-1, FAR, LOW}) due("message", fresh().message(m, 0), -5);
    });
    test(21, "-5 another what: -1 and 5", () -> {
      due("message", fresh().message(0, -1), -5);
      due("message", fresh().message(0, 5), -5);
      due("message", fresh().message(0, FAR), -5);
      due("message", fresh().message(0, LOW), -5);
    });
    test(21, "what 0 to 4", () -> due("message", message(fresh(), 5), "2 3 0 1 0"));
    test(21, "numbers 59 and 60 are told alike", () -> {
      CommitPrefixes x = of(many);
      // 5 PREPAREs, 5 YESes, then 25 ASKs at 3, 5, 7 and so on
      dueMessages(x, 59, "9 5 4 5 0", "9 1 0 7 2");
    });
    test(21, "a MESSAGE of a RUN that is no more", () -> {
      CommitPrefixes x = fresh();
      due("message", x.message(11, 0), 8);
      x.put(0, 1);
      due("message", x.message(11, 0), -5);
      due("message", x.message(3, 0), 8);
    });
  }

  private static void whatIsKept() {
    test(RUN, "A SITE that isn't UP keeps its LOG alone: the LOG is told while it is away", () -> {
      CommitPrefixes x = of("sites 1;down 1 2 9");
      due("records", x.records(5, 1), 1);
      due("state", x.state(5, 1), 9);
    });
    test(RUN, "A SITE that isn't UP keeps its LOG alone: no STATE", () -> {
      CommitPrefixes x = of("sites 1;lose 0;down 1 3 4");
      due("INIT was not kept", states(x, 1, 2, 4), "094");
    });
    test(RUN, "A SITE that isn't UP keeps its LOG alone: no TIMER", () -> {
      // PRE at 3 with TIMER 7; away from 4 up to 6, it has TIMER 10
      CommitPrefixes x = of("sites 1;phases 3;down 0 3 60;down 1 4 6");
      due("states", states(x, 1, 3, 10), "29922223");
    });
    test(RUN, "A SITE that isn't UP does nothing when its TIMER ends", () -> {
      CommitPrefixes x = of("sites 1;lose 2;down 1 3 20");
      due("no ASK", x.sent(19), 7);
      for (int m = 3; m < 7; m++) due("COMMIT", message(x, m), "6 0 1 " + (4 * m - 6) + " 2");
      due("ASK", message(x, 7), "9 1 0 20 0");
    });
    test(RUN, "A SITE that isn't UP keeps its LOG alone: not what it DECIDED by presuming", () -> {
      CommitPrefixes x = of("sites 1;no 1;presume;down 0 5 7");
      due("ENDED, away, ENDED", states(x, 0, 4, 7), "5995");
      due("ABORT is SENT again", message(x, 3), "7 0 1 7 0");
      due("sent", x.sent(60), 4);
    });
  }

  private static void coordinatorCounts() {
    test(RUN, "YES is counted; when all have: not with one missing", () -> {
      CommitPrefixes x = of("lose 5");
      due("states", states(x, 0, 1, 4), "1114");
    });
    test(RUN, "when all have: n 1", () -> due("decided", of("sites 1").decided(2, 0), 1));
    test(RUN, "when all have: PHASES 3: NOTES PRE, sends PRE to all", () -> {
      CommitPrefixes x = of("sites 2;phases 3");
      due("states", states(x, 0, 0, 6), "1122335");
      dueMessages(x, 4, "4 0 1 2 0", "4 0 2 2 0", "5 1 0 3 0", "5 2 0 3 0", "6 0 1 4 0", "6 0 2 4 0");
      dueLogs(x, "1346", "234", "234");
    });
    test(RUN, "PACK is counted, once of each", () -> {
      // 2's first PACK comes at 4 and its second at 6, with that of 3; 1's are lost
      CommitPrefixes x = of("sites 3;phases 3;down 0 3 4;lose 9;lose 11;lose 15");
      due("PACK of 2", message(x, 10), "5 2 0 3 0");
      due("PACK of 2 again", message(x, 16), "5 2 0 5 0");
      due("PACK of 3", message(x, 17), "5 3 0 5 0");
      due("states", states(x, 0, 4, 8), "22223");
    });
    test(RUN, "ACK is counted, once of each", () -> {
      // 1 asks and hears COMMIT four times; both ACKs of 3 are lost
      CommitPrefixes x = of("lose 6;lose 10;lose 23");
      for (int m = 19; m < 23; m++) due("ACK of 1", message(x, m), "8 1 0 7 0");
      due("ACK of 3", message(x, 23), "8 3 0 7 1");
      due("COMMIT to 3 alone", message(x, 24), "6 0 3 10 0");
      due("sent", x.sent(10), 25);
      due("states", states(x, 0, 7, 12), "333335");
    });
    test(RUN, "ACK when all have: NOTES END, is ENDED, no TIMER", () -> {
      CommitPrefixes x = of("sites 1");
      due("log", log(x, 0), "146");
      due("sent", x.sent(60), 4);
    });
    test(RUN, "ACK of an ABORT when all have: NOTES END", () -> {
      CommitPrefixes x = of("sites 1;no 1");
      due("log", log(x, 0), "156");
      due("states", states(x, 0, 0, 4), "11445");
    });
    test(RUN, "What isn't told does nothing: an ACK to one that is WAITING isn't counted", () -> {
      // 2 recovers READY and asks at 3, 1 aborts and answers, 2 sends ACK to 0, which waits for 1
      CommitPrefixes x = of("sites 2;wait 9;lose 0;down 2 2 3;lose 9;lose 10");
      due("ASK of 2", message(x, 3), "9 2 0 3 0");
      due("ASK of 2", message(x, 4), "9 2 1 3 0");
      due("ABORT of 1", message(x, 5), "7 1 2 4 0");
      due("ACK of 2", message(x, 6), "8 2 0 5 0");
      due("0 is WAITING", states(x, 0, 6, 9), "1114");
      due("ABORT to both", message(x, 7), "7 0 1 9 0");
      due("ACKs are lost", message(x, 10), "8 2 0 10 1");
      due("ABORT to both again", message(x, 12), "7 0 2 18 0");
    });
  }

  private static void coordinatorDecides() {
    test(RUN, "WAITING: NO: DECIDES ABORT, at once", () -> {
      CommitPrefixes x = of("no 3;lose 3;lose 4");
      due("states", states(x, 0, 1, 2), "14");
    });
    test(RUN, "a NO that comes when it isn't WAITING does nothing", () -> {
      CommitPrefixes x = of("sites 2;no 1;no 2");
      dueMessages(x, 2, "3 1 0 1 0", "3 2 0 1 0", "7 0 1 2 0", "7 0 2 2 0");
      due("sent", x.sent(2), 6);
      due("log", log(x, 0), "156");
    });
    test(RUN, "To DECIDE ABORT: PRESUMED: is ENDED, no RECORD, no TIMER", () -> {
      CommitPrefixes x = of("sites 1;presume;lose 0");
      due("states", states(x, 0, 3, 4), "15");
      due("log", log(x, 0), "1");
      due("sent", x.sent(60), 2);
    });
    test(RUN, "To DECIDE ABORT: else NOTES ABORT, TIMER w", () -> {
      CommitPrefixes x = of("sites 1;lose 0;lose 1");
      due("states", states(x, 0, 3, 4), "14");
      due("ABORT again", message(x, 2), "7 0 1 8 0");
      due("log", log(x, 0), "156");
    });
    test(RUN, "To DECIDE ABORT: to all, also to who said NO", () -> {
      CommitPrefixes x = of("sites 2;no 1");
      dueMessages(x, 4, "7 0 1 2 0", "7 0 2 2 0");
    });
    test(RUN, "To DECIDE COMMIT when ABORT is PRESUMED: as else", () -> {
      CommitPrefixes x = of("sites 1;presume");
      due("log", log(x, 0), "146");
      due("sent", x.sent(60), 4);
    });
    test(RUN, "PRE: TIMES OUT: DECIDES COMMIT", () -> {
      CommitPrefixes x = of("sites 2;phases 3;lose 6");
      due("states", states(x, 0, 2, 6), "22223");
      due("log", log(x, 0), "1346");
    });
    test(RUN, "PRE: TIMES OUT: WAIT 9", () -> {
      CommitPrefixes x = of("sites 2;phases 3;wait 9;lose 6");
      due("states", states(x, 0, 10, 11), "23");
    });
  }

  private static void coordinatorWaits() {
    test(RUN, "COMMITTED: TIMES OUT: sends it again to those whose ACK wasn't counted, by numbers", () -> {
      CommitPrefixes x = of("lose 9;lose 11");
      dueMessages(x, 12, "6 0 1 6 0", "6 0 3 6 0", "8 1 0 7 0", "8 3 0 7 0");
      due("sent", x.sent(60), 16);
      due("states", states(x, 0, 7, 8), "35");
    });
    test(RUN, "ABORTED: TIMES OUT: sends it again to those whose ACK wasn't counted", () -> {
      CommitPrefixes x = of("no 1;lose 10");
      dueMessages(x, 12, "7 0 2 6 0", "8 2 0 7 0");
      due("sent", x.sent(60), 14);
    });
    test(RUN, "TIMER w, again and again: up to TICK 60", () -> {
      CommitPrefixes x = of("sites 1;wait 9;down 1 1 60;lose 1");
      // ABORT at 9, 18, 27, 36, 45 and 54
      due("sent", x.sent(60), 7);
      due("sent", x.sent(53), 6);
      due("the last", message(x, 6), "7 0 1 54 2");
      due("state", x.state(60, 0), 4);
    });
    test(RUN, "ENDED: no TIMER", () -> {
      CommitPrefixes x = of("sites 1;wait 2");
      due("sent", x.sent(4), x.sent(60));
    });
  }

  private static void coordinatorDoesNothing() {
    test(RUN, "What isn't told does nothing: a PACK to one that is COMMITTED is no ACK", () -> {
      // it recovers PRE and sends PRE again at 4, when the first PACK comes: the second finds it COMMITTED
      CommitPrefixes x = of("sites 1;phases 3;down 0 3 4;lose 7");
      dueMessages(x, 3, "5 1 0 3 0", "4 0 1 4 0", "6 0 1 4 0", "5 1 0 5 0", "8 1 0 5 1", "6 0 1 8 0", "8 1 0 9 0");
      due("states", states(x, 0, 4, 10), "3333335");
      due("log", log(x, 0), "1346");
      due("sent", x.sent(60), 10);
    });
    test(RUN, "What isn't told does nothing: a YES to one that is ENDED", () -> {
      CommitPrefixes x = of("sites 1;presume;down 0 1 2");
      dueMessages(x, 1, "2 1 0 1 0", "7 0 1 2 0");
      due("states", states(x, 0, 1, 4), "9555");
      due("log", log(x, 0), "1");
      due("sent", x.sent(60), 3);
    });
    test(RUN, "What isn't told does nothing: a YES to one that is ABORTED is no ACK", () -> {
      CommitPrefixes x = of("sites 1;down 0 1 2;lose 3");
      dueMessages(x, 1, "2 1 0 1 0", "7 0 1 2 0", "8 1 0 3 1", "7 0 1 6 0");
      due("states", states(x, 0, 1, 8), "94444445");
      due("log", log(x, 0), "156");
    });
    test(RUN, "What isn't told does nothing: a NO to one that is ENDED", () -> {
      CommitPrefixes x = of("sites 2;presume;no 1;no 2");
      dueMessages(x, 2, "3 1 0 1 0", "3 2 0 1 0", "7 0 1 2 0", "7 0 2 2 0");
      due("sent", x.sent(60), 6);
      due("log", log(x, 0), "1");
    });
    test(RUN, "What isn't told does nothing: a NO to one that is ABORTED is no ACK", () -> {
      CommitPrefixes x = of("sites 2;no 1;no 2;lose 7");
      dueMessages(x, 6, "8 1 0 3 0", "8 2 0 3 1", "7 0 2 6 0", "8 2 0 7 0");
      due("states", states(x, 0, 4, 8), "44445");
      due("sent", x.sent(60), 10);
    });
    test(RUN, "What isn't told does nothing: an ACK to one that is ENDED", () -> {
      // 1 recovers READY and asks at 4; it hears COMMIT at 6 for its ASK and at 7 once more
      CommitPrefixes x = of("sites 1;down 1 2 4");
      dueMessages(x, 3, "9 1 0 4 0", "6 0 1 5 0", "8 1 0 6 0", "6 0 1 6 0", "8 1 0 7 0");
      due("states", states(x, 0, 6, 9), "3555");
      due("log", log(x, 0), "146");
      due("sent", x.sent(60), 8);
    });
  }

  private static void asks() {
    test(RUN, "ASK: COMMITTED: sends COMMIT to who asked", () -> {
      CommitPrefixes x = of("sites 2;lose 4");
      dueMessages(x, 6, "8 2 0 3 0", "9 1 0 5 0", "9 1 2 5 0", "6 0 1 6 0", "6 2 1 6 0", "6 0 1 6 0");
    });
    test(RUN, "ASK: ABORTED: sends ABORT to who asked", () -> {
      CommitPrefixes x = of("sites 2;no 2;lose 4");
      dueMessages(x, 6, "8 2 0 3 0", "9 1 0 5 0", "9 1 2 5 0", "7 0 1 6 0", "7 2 1 6 0", "7 0 1 6 0");
    });
    test(RUN, "ASK: ENDED: sends what it DECIDED to who asked", () -> {
      CommitPrefixes x = of("sites 2;no 2;presume;lose 4");
      dueMessages(x, 6, "9 1 0 5 0", "9 1 2 5 0", "7 0 1 6 0", "7 2 1 6 0");
      due("sent", x.sent(60), 10);
      due("1", states(x, 1, 6, 7), "14");
    });
    test(RUN, "ASK: WAITING: nothing", () -> {
      CommitPrefixes x = of("sites 2;wait 9;lose 0;down 2 2 3");
      dueMessages(x, 3, "9 2 0 3 0", "9 2 1 3 0", "7 1 2 4 0");
      due("sent", x.sent(4), 6);
    });
    test(RUN, "PARTICIPANT: ASK: INIT: NOTES ABORT, is ABORTED, sends ABORT to who asked", () -> {
      CommitPrefixes x = of("sites 2;wait 9;lose 0;down 2 2 3");
      due("1", states(x, 1, 3, 4), "04");
      due("2", states(x, 2, 4, 5), "14");
      due("log", log(x, 1), "5");
    });
    test(RUN, "PARTICIPANT: ASK: READY: nothing", () -> {
      CommitPrefixes x = of("sites 2;down 0 2 9");
      due("ASKs alone", x.sent(8), 8);
    });
    test(RUN, "sends ASK to 0 and to all others: n 1", () -> {
      CommitPrefixes x = of("sites 1;down 0 2 9");
      due("ASK", message(x, 2), "9 1 0 5 2");
      due("no other", x.sent(8), 3);
    });
    test(RUN, "sends ASK to 0 and to all others: n 5, of 3", () -> {
      CommitPrefixes x = of("sites 5;down 3 2 9;lose 12");
      int first = x.sent(9) - 5;
      int[] to = {0, 1, 2, 4, 5};
      for (int i = 0; i < 5; i++) due("ASK", message(x, first + i), "9 3 " + to[i] + " 9 0");
    });
    test(RUN, "READY: TIMES OUT: PHASES 2: TIMER w, again and again", () -> {
      CommitPrefixes x = of("sites 1;wait 9;down 0 2 60");
      // READY at 1, ASKs at 10, 19, 28, 37, 46, 55
      due("sent", x.sent(9), 2);
      due("sent", x.sent(10), 3);
      due("sent", x.sent(54), 7);
      due("sent", x.sent(59), 8);
    });
  }

  private static void participantHears() {
    test(RUN, "INIT: PREPARE with VOTE yes", () -> {
      CommitPrefixes x = of("sites 1;down 0 1 60");
      due("log", log(x, 1), "2");
      due("YES", message(x, 1), "2 1 0 1 2");
      due("TIMER w: 1 and 4", message(x, 2), "9 1 0 5 2");
    });
    test(RUN, "INIT: PREPARE with VOTE no: no TIMER", () -> {
      CommitPrefixes x = of("sites 1;no 1;down 0 1 60");
      due("log", log(x, 1), "5");
      due("NO", message(x, 1), "3 1 0 1 2");
      due("sent", x.sent(59), 2);
    });
    test(RUN, "READY: PRE: TIMER w", () -> {
      CommitPrefixes x = of("sites 1;phases 3;down 0 3 60");
      due("states", states(x, 1, 1, 7), "1122223");
      due("PACK", message(x, 3), "5 1 0 3 2");
    });
    test(RUN, "PRE: PRE: sends PACK to 0, its TIMER stays", () -> {
      CommitPrefixes x = of("sites 1;phases 3;down 0 3 5");
      dueMessages(x, 3, "5 1 0 3 2", "4 0 1 5 0", "5 1 0 6 0");
      due("TIMER 7", states(x, 1, 3, 7), "22223");
    });
    test(RUN, "What isn't told does nothing: PRE to one that is ABORTED", () -> {
      // 2 is away when PRE comes, recovers READY at 4 and aborts at once; the second PRE finds it ABORTED
      CommitPrefixes x = of("sites 2;phases 3;down 2 3 4;down 0 4 8");
      due("2", states(x, 2, 2, 4), "194");
      due("PRE again", message(x, 8), "4 0 2 8 0");
      due("no PACK of 2", x.message(9, 0), 6);
      due("log", log(x, 2), "25");
    });
    test(RUN, "What isn't told does nothing: PRE to one that is COMMITTED", () -> {
      CommitPrefixes x = of("sites 1;phases 3;down 0 3 9");
      due("1 commits at 7", states(x, 1, 6, 7), "23");
      due("PRE again", message(x, 4), "4 0 1 9 0");
      due("no PACK", message(x, 5), "6 0 1 13 0");
    });
    test(RUN, "What isn't told does nothing: PREPARE to one that is ABORTED", () -> {
      CommitPrefixes x = of("sites 1;down 1 0 1");
      due("no answer", x.sent(1), 1);
      due("log", log(x, 1), "5");
    });
  }

  private static void participantWaits() {
    test(RUN, "READY: TIMES OUT: PHASES 3: NOTES ABORT, is ABORTED", () -> {
      CommitPrefixes x = of("sites 1;phases 3;down 0 2 60");
      due("states", states(x, 1, 1, 5), "11114");
      due("log", log(x, 1), "25");
      due("it sends nothing", x.sent(59), 2);
    });
    test(RUN, "PRE: TIMES OUT: NOTES COMMIT, is COMMITTED", () -> {
      CommitPrefixes x = of("sites 1;phases 3;down 0 3 60");
      due("states", states(x, 1, 6, 7), "23");
      due("log", log(x, 1), "234");
      due("it sends nothing", x.sent(59), 4);
    });
    test(RUN, "INIT: no TIMER", () -> {
      CommitPrefixes x = of("sites 1;down 0 0 60");
      for (int t = 0; t <= 60; t++) due("state", x.state(t, 1), 0);
    });
    test(RUN, "COMMITTED and ABORTED: no TIMER", () -> {
      CommitPrefixes x = of("sites 1;down 0 4 60");
      due("COMMITTED at 3", x.state(3, 1), 3);
      due("nothing more", x.sent(59), 4);
      CommitPrefixes y = of("sites 1;no 1;down 0 4 60");
      due("ABORTED at 1", y.state(1, 1), 4);
      due("nothing more", y.sent(59), 4);
    });
  }

  private static void decisionsHeard() {
    test(RUN, "ABORT in INIT: NOTES it, is ABORTED, and ANSWERS", () -> {
      CommitPrefixes x = of("sites 1;lose 0");
      due("1", states(x, 1, 4, 5), "04");
      due("ACK", message(x, 2), "8 1 0 5 0");
      dueLogs(x, "156", "5");
    });
    test(RUN, "ABORT in READY", () -> {
      CommitPrefixes x = of("sites 1;lose 1");
      due("1", states(x, 1, 4, 5), "14");
      dueLogs(x, "156", "25");
    });
    test(RUN, "COMMIT in PRE", () -> {
      CommitPrefixes x = of("sites 1;phases 3");
      due("1", states(x, 1, 3, 5), "223");
    });
    test(RUN, "COMMIT and ABORT from whomever", () -> {
      CommitPrefixes x = of("sites 2;wait 9;lose 0;down 2 2 3");
      due("ABORT of 1", message(x, 5), "7 1 2 4 0");
      due("2 is ABORTED by it", x.state(5, 2), 4);
      due("ACK goes to 0", message(x, 6), "8 2 0 5 0");
    });
    test(RUN, "in COMMITTED: it ANSWERS alone", () -> {
      CommitPrefixes x = of("sites 1;lose 3");
      due("COMMIT again", message(x, 4), "6 0 1 6 0");
      due("ACK again", message(x, 5), "8 1 0 7 0");
      dueLogs(x, "146", "24");
    });
    test(RUN, "in ABORTED: it ANSWERS alone, to COMMIT too", () -> {
      CommitPrefixes x = of("sites 2;phases 3;lose 5");
      due("2 aborts at 5", states(x, 2, 4, 5), "14");
      due("COMMIT to 2", message(x, 8), "6 0 2 6 0");
      due("ACK of 2", message(x, 10), "8 2 0 7 0");
      dueLogs(x, "1346", "234", "25");
    });
    test(RUN, "To ANSWER: not to ABORT, if that is PRESUMED", () -> {
      CommitPrefixes x = of("sites 2;no 1;presume");
      due("sent", x.sent(60), 6);
      due("2", states(x, 2, 2, 3), "14");
    });
    test(RUN, "To ANSWER: to COMMIT, though ABORT is PRESUMED", () -> {
      CommitPrefixes x = of("sites 2;presume");
      due("sent", x.sent(60), 8);
      due("0", x.state(60, 0), 5);
    });
    test(RUN, "To ANSWER: to COMMIT in ABORTED, though ABORT is PRESUMED", () -> {
      CommitPrefixes x = of("sites 2;phases 3;presume;lose 4");
      due("1 is ABORTED when COMMIT comes", states(x, 1, 4, 7), "1444");
      dueMessages(x, 7, "6 0 1 6 0", "6 0 2 6 0", "8 1 0 7 0", "8 2 0 7 0");
      dueLogs(x, "1346", "25", "234");
    });
    test(RUN, "To ANSWER: to ABORT in ABORTED, unless it is PRESUMED", () -> {
      due("ACK", message(of("sites 1;no 1"), 3), "8 1 0 3 0");
      due("none", of("sites 1;no 1;presume").sent(60), 3);
    });
  }

  private static void coordinatorRecovers() {
    test(RUN, "COORDINATOR RECOVERS: none: DECIDES ABORT", () -> {
      CommitPrefixes x = of("sites 1;down 0 0 5");
      due("states", states(x, 0, 4, 7), "9445");
      dueMessages(x, 0, "7 0 1 5 0", "8 1 0 6 0");
      dueLogs(x, "56", "5");
    });
    test(RUN, "COORDINATOR RECOVERS: none, PRESUMED: is ENDED", () -> {
      CommitPrefixes x = of("sites 1;presume;down 0 0 5");
      due("states", states(x, 0, 4, 5), "95");
      due("log", log(x, 0), "");
      due("sent", x.sent(60), 1);
    });
    test(RUN, "COORDINATOR RECOVERS: BEGIN: DECIDES ABORT", () -> {
      CommitPrefixes x = of("sites 1;wait 9;down 0 2 3");
      due("states", states(x, 0, 1, 5), "19445");
      dueLogs(x, "156", "25");
    });
    test(RUN, "COORDINATOR RECOVERS: PRE: is PRE, sends PRE to all, TIMER w", () -> {
      CommitPrefixes x = of("sites 1;phases 3;down 0 3 9;lose 4");
      due("states", states(x, 0, 8, 13), "922223");
      due("PRE", message(x, 4), "4 0 1 9 1");
    });
    test(RUN, "COORDINATOR RECOVERS: COMMIT: is that, sends it to all, TIMER w", () -> {
      CommitPrefixes x = of("sites 2;down 0 3 9;lose 8;lose 9");
      due("states", states(x, 0, 8, 9), "93");
      dueMessages(x, 8, "6 0 1 9 1", "6 0 2 9 1", "6 0 1 13 0", "6 0 2 13 0");
      due("log", log(x, 0), "146");
    });
    test(RUN, "COORDINATOR RECOVERS: ABORT: is that, sends it to all, TIMER w", () -> {
      CommitPrefixes x = of("sites 1;no 1;down 0 3 9;lose 4");
      due("states", states(x, 0, 8, 9), "94");
      dueMessages(x, 4, "7 0 1 9 1", "7 0 1 13 0");
      due("log", log(x, 0), "156");
    });
    test(RUN, "COORDINATOR RECOVERS: END: is ENDED, sends nothing", () -> {
      CommitPrefixes x = of("sites 1;down 0 5 6");
      due("states", states(x, 0, 4, 6), "595");
      due("sent", x.sent(60), 4);
      due("DECIDED", x.decided(60, 0), 1);
    });
    test(RUN, "nothing is counted then: no PACK", () -> {
      // the PACK of 2 came at 4, that of 1 at 8; behind RECOVERING at 6 the second of 2 is lost
      CommitPrefixes x = of("sites 2;phases 3;lose 6;down 0 5 6;lose 11");
      dueMessages(x, 6, "5 1 0 3 1", "5 2 0 3 0", "4 0 1 6 0", "4 0 2 6 0", "5 1 0 7 0", "5 2 0 7 1");
      due("states", states(x, 0, 4, 10), "2922223");
    });
    test(RUN, "nothing is counted then: no ACK of an ABORT", () -> {
      CommitPrefixes x = of("sites 2;no 1;lose 6;down 0 5 6;lose 11");
      dueMessages(x, 6, "8 1 0 3 1", "8 2 0 3 0", "7 0 1 6 0", "7 0 2 6 0", "8 1 0 7 0", "8 2 0 7 1", "7 0 2 10 0");
      due("states", states(x, 0, 4, 12), "494444445");
    });
    test(RUN, "nothing is counted then", () -> {
      // 2's ACK was counted at 4; lost is 1's, and 2's second one
      CommitPrefixes x = of("sites 2;lose 6;lose 11;down 0 5 7");
      dueMessages(x, 8, "6 0 1 7 0", "6 0 2 7 0", "8 1 0 8 0", "8 2 0 8 1", "6 0 2 11 0", "8 2 0 12 0");
      due("states", states(x, 0, 7, 13), "3333335");
    });
    test(RUN, "by the last RECORD of its LOG, at TICK 60 too", () -> {
      CommitPrefixes x = of("sites 1;down 0 1 60");
      due("states", states(x, 0, 59, 60), "94");
      due("ABORT", message(x, x.sent(60) - 1), "7 0 1 60 3");
    });
  }

  private static void participantRecovers() {
    test(RUN, "PARTICIPANT RECOVERS: none: NOTES ABORT, is ABORTED, sends nothing", () -> {
      CommitPrefixes x = of("sites 1;down 1 0 2");
      due("states", states(x, 1, 1, 2), "94");
      due("log", log(x, 1), "5");
      due("sent", x.sent(3), 1);
    });
    test(RUN, "PARTICIPANT RECOVERS: READY: is READY, TIMER t", () -> {
      CommitPrefixes x = of("sites 1;down 1 2 3;lose 2");
      due("states", states(x, 1, 2, 5), "9113");
      due("ASK", message(x, 3), "9 1 0 3 0");
    });
    test(RUN, "PARTICIPANT RECOVERS: READY, PHASES 3: TIMER t: is ABORTED at once", () -> {
      CommitPrefixes x = of("sites 1;phases 3;wait 9;down 1 2 5");
      due("states", states(x, 1, 4, 5), "94");
      due("log", log(x, 1), "25");
    });
    test(RUN, "PARTICIPANT RECOVERS: READY, PHASES 3: PRE that arrives at t is ahead of TIMER t", () -> {
      CommitPrefixes x = of("sites 1;phases 3;down 1 2 3");
      due("states", states(x, 1, 1, 3), "192");
      due("log", log(x, 1), "234");
    });
    test(RUN, "PARTICIPANT RECOVERS: PRE: is PRE, TIMER w", () -> {
      CommitPrefixes x = of("sites 1;phases 3;down 0 3 60;down 1 4 10");
      due("states", states(x, 1, 9, 14), "922223");
    });
    test(RUN, "PARTICIPANT RECOVERS: PRE: sends nothing", () -> {
      CommitPrefixes x = of("sites 1;phases 3;down 1 4 6");
      due("states", states(x, 1, 3, 9), "2992223");
      due("sent", x.sent(7), 5);
      dueMessages(x, 4, "6 0 1 4 2", "6 0 1 8 0", "8 1 0 9 0");
    });
    test(RUN, "PARTICIPANT RECOVERS: COMMIT: is that", () -> {
      CommitPrefixes x = of("sites 1;down 1 9 10");
      due("states", states(x, 1, 8, 10), "393");
      due("sent", x.sent(60), 4);
    });
    test(RUN, "PARTICIPANT RECOVERS: ABORT: is that", () -> {
      CommitPrefixes x = of("sites 1;no 1;down 1 9 10");
      due("states", states(x, 1, 8, 10), "494");
      due("log", log(x, 1), "5");
    });
  }

  private static void logs() {
    test(19, "-5: an element just behind the last", () -> {
      CommitPrefixes x = fresh();
      due("record", x.record(0, 2), 6);
      due("record", x.record(0, 3), -5);
      due("record", x.record(1, 1), 4);
      due("record", x.record(1, 2), -5);
    });
    test(19, "-5: -1, the greatest and the least int", () -> {
      for (int i : new int[] {-1, FAR, LOW}) due("record", fresh().record(0, i), -5);
    });
    test(19, "-5: a LOG that has none", () -> {
      CommitPrefixes x = of("sites 1;down 0 0 60");
      due("records", x.records(60, 1), 0);
      due("record", x.record(1, 0), -5);
    });
    test(19, "-1 ahead of -5", () -> due("record", fresh().record(4, -1), -1));
    test(19, "the longest LOG: BEGIN, PRE, COMMIT, END", () -> {
      CommitPrefixes x = of("sites 5;phases 3");
      due("log", log(x, 0), "1346");
      due("log", log(x, 5), "234");
      due("records", x.records(60, 0), 4);
    });
    test(18, "its LOG behind TICK t, not behind 60", () -> {
      CommitPrefixes x = of("sites 1;phases 3");
      int[] records = {1, 1, 2, 2, 3, 3, 4};
      for (int t = 0; t < 7; t++) due("records", x.records(t, 0), records[t]);
    });
    test(17, "DECIDED: COMMIT behind the TICK at which it is noted", () -> {
      CommitPrefixes x = of("sites 1");
      int[] first = {0, 0, 1, 1};
      int[] second = {0, 0, 0, 1};
      for (int t = 0; t < 4; t++) {
        due("decided", x.decided(t, 0), first[t]);
        due("decided", x.decided(t, 1), second[t]);
      }
    });
    test(17, "DECIDED: by its LOG, though it isn't UP", () -> {
      CommitPrefixes x = of("sites 1;down 0 3 9;down 1 4 9");
      due("decided", x.decided(5, 0), 1);
      due("decided", x.decided(5, 1), 1);
      CommitPrefixes y = of("sites 1;no 1;down 0 3 9;down 1 2 9");
      due("decided", y.decided(5, 0), 2);
      due("decided", y.decided(5, 1), 2);
    });
    test(17, "DECIDED: PRESUMED and ENDED without a COMMIT: ABORT", () -> {
      CommitPrefixes x = of("sites 1;no 1;presume");
      due("ahead of it", x.decided(1, 0), 0);
      due("decided", x.decided(2, 0), 2);
      due("its LOG has none", log(x, 0), "1");
    });
    test(17, "DECIDED: PRESUMED and ENDED with a COMMIT: COMMIT", () -> {
      CommitPrefixes x = of("sites 1;presume");
      due("state", x.state(60, 0), 5);
      due("decided", x.decided(60, 0), 1);
    });
    test(17, "DECIDED: PRESUMED, not ENDED and without a COMMIT: 0", () -> {
      CommitPrefixes x = of("sites 1;presume");
      due("WAITING", x.decided(1, 0), 0);
    });
    test(17, "DECIDED: PRESUMED, ENDED ahead and not UP: it isn't ENDED then: 0", () -> {
      CommitPrefixes x = of("sites 1;no 1;presume;down 0 9 20");
      due("ahead", x.decided(8, 0), 2);
      due("away", x.decided(9, 0), 0);
      due("away", x.decided(19, 0), 0);
      due("recovered", x.decided(20, 0), 2);
    });
    test(17, "DECIDED: ENDED with a COMMIT and not UP: its LOG has it", () ->
        due("decided", of("sites 1;presume;down 0 9 20").decided(9, 0), 1));
    test(17, "DECIDED: PRESUMED: of a PARTICIPANT by its LOG alone", () -> {
      CommitPrefixes x = of("sites 2;no 2;presume;lose 4;lose 8;lose 9");
      due("1 is READY", x.decided(7, 1), 0);
      due("2", x.decided(7, 2), 2);
    });
    test(17, "DECIDED: 0, INIT to the end", () -> due("decided", of("sites 1;down 0 0 60").decided(60, 1), 0));
    test(16, "STATES of one that isn't UP: 9", () -> {
      CommitPrefixes x = of("down 0 5 6;down 3 7 8");
      due("0", states(x, 0, 4, 6), "595");
      due("3", states(x, 3, 6, 8), "393");
    });
  }

  private static void fates() {
    test(21, "FATE 0: SENT at 59, it arrives at 60", () -> due("message", message(of("sites 1;down 0 0 59"), 0), "7 0 1 59 0"));
    test(21, "FATE 3: SENT at TICK 60", () -> {
      CommitPrefixes x = of("sites 1;down 0 0 59");
      due("message", message(x, 1), "8 1 0 60 3");
      due("state", x.state(60, 0), 4);
    });
    test(21, "FATE 1: a LOSS, SENT at 59", () -> due("message", message(of("sites 1;down 0 0 59;lose 0"), 0), "7 0 1 59 1"));
    test(21, "FATE 1: a LOSS to one that isn't UP", () -> due("message", message(of("sites 1;lose 0;down 1 0 5"), 0), "1 0 1 0 1"));
    test(21, "FATE 3: a LOSS, SENT at TICK 60 (NOTES tell why)", () -> due("message", message(of("sites 1;down 0 0 60;lose 0"), 0), "7 0 1 60 3"));
    test(21, "FATE 2: who should get it wasn't UP, at the last TICK of that", () -> {
      due("message", message(of("sites 1;down 1 0 2"), 0), "1 0 1 0 2");
      due("message", message(of("sites 1;down 1 0 1"), 0), "1 0 1 0 0");
    });
    test(21, "FATE 2: who should get it wasn't UP, from the first TICK of that", () -> {
      due("message", message(of("sites 1;down 1 1 5"), 0), "1 0 1 0 2");
      due("message", message(of("sites 1;down 1 2 5"), 0), "1 0 1 0 0");
    });
    test(21, "FATE 0: it ARRIVED, though it does nothing", () -> due("message", message(of("sites 1;down 1 0 1"), 0), "1 0 1 0 0"));
  }
}
