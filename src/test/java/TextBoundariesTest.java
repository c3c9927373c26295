// TEXTS and FAULTS (promises 9 and 10): each sentence that names a boundary.
public final class TextBoundariesTest extends Sentence {
  public static void main(String[] args) {
    items();
    numbersThatMayBe();
    numbersThatMayNotBe();
    digits();
    blanks();
    words();
    endsTooEarly();
    ticks();
    signs();
    allOrNothing();
    lengths();
    elements();
    refusals();
    latestFault();
    end();
  }

  private static CommitPrefixes read(String text, int answer, int fault) {
    CommitPrefixes x = fresh();
    write(x, 0, 0, text);
    due("read(" + text + ")", x.read(0), answer);
    due("fault of " + text, x.fault(), fault);
    return x;
  }

  private static void good(String why, String text, int items) {
    test(9, why + ": " + text, () -> read(text, items, -1));
  }

  private static void bad(String why, String text, int place) {
    test(9, why + ": " + text, () -> {
      CommitPrefixes x = read(text, -6, place);
      due("a FAULT is counted", x.status(16), 1);
    });
  }

  private static void told(String text, int what, int want) {
    test(9, text + " is what told(" + what + ") tells", () -> due("told", of(text).told(what), want));
  }

  private static void items() {
    told("sites 1", 0, 1);
    told("sites 5", 0, 5);
    told("phases 3", 1, 3);
    told("phases 3;phases 2", 1, 2);
    told("wait 2", 2, 2);
    told("wait 9", 2, 9);
    told("presume", 3, 1);
    told("presume;plain", 3, 0);
    told("no 1", 4, 12);
    told("no 1;yes 1", 4, 14);
    told("no 5", 4, 14);
    told("no 5;sites 5", 4, 30);
    told("sites 5;no 5;yes 5", 4, 62);
    told("lose 0", 5, 1);
    told("lose 59", 5, 1);
    told("lose 59;lose 59", 5, 1);
    told("lose 0;lose 59;keep 0", 5, 1);
    told("lose 59;keep 59", 5, 0);
    told("down 0 0 1", 6, 1);
    told("down 5 0 1", 6, 0);
    told("down 5 0 1;sites 5", 6, 32);
    told("down 0 0 1;up 0", 6, 0);
    told("sites 5;down 5 0 1;up 5", 6, 0);
    test(9, "lose M makes M a LOSS, keep M (it is no LOSS) ends that", () -> {
      CommitPrefixes x = of("lose 0;lose 59;lose 30;keep 30");
      due("lose(0)", x.lose(0, true), 1);
      due("lose(59)", x.lose(59, true), 1);
      due("lose(30)", x.lose(30, true), 0);
    });
    test(9, "down S D U: from D up to U", () -> {
      CommitPrefixes x = of("sites 1;down 1 7 9");
      due("state", states(x, 1, 6, 9), "3993");
    });
    test(9, "what the TEXT doesn't name stays as it was", () -> {
      CommitPrefixes x = fresh();
      x.put(2, 7);
      x.vote(2, false);
      x.lose(9, true);
      x.down(1, 3, 4);
      x.seed(8);
      write(x, 0, 0, "no 3");
      due("read", x.read(0), 1);
      int[] want = {3, 2, 7, 0, 2, 1, 2, 8};
      for (int what = 0; what < 8; what++) due("told(" + what + ")", x.told(what), want[what]);
    });
  }

  private static void numbersThatMayBe() {
    for (int p = 1; p <= 5; p++) {
      good("sites 1 to 5", "sites " + p, 1);
      good("P 1 to 5", "yes " + p, 1);
      good("P 1 to 5", "no " + p, 1);
    }
    for (int s = 0; s <= 5; s++) {
      good("S 0 to 5", "up " + s, 1);
      good("S 0 to 5", "down " + s + " 0 60", 1);
    }
    for (int w = 2; w <= 9; w++) good("wait 2 to 9", "wait " + w, 1);
    good("phases 2 or 3", "phases 2", 1);
    good("phases 2 or 3", "phases 3", 1);
    for (int m : new int[] {0, 9, 10, 29, 30, 58, 59}) {
      good("M 0 to 59", "lose " + m, 1);
      good("M 0 to 59", "keep " + m, 1);
    }
  }

  private static void numbersThatMayNotBe() {
    String why = "of a number that may not be its first digit";
    bad(why, "sites 0", 6);
    bad(why, "sites 6", 6);
    bad(why, "sites 10", 6);
    bad(why, "sites 00", 6);
    bad(why, "phases 1", 7);
    bad(why, "phases 4", 7);
    bad(why, "phases 23", 7);
    bad(why, "phases 0", 7);
    bad(why, "wait 1", 5);
    bad(why, "wait 10", 5);
    bad(why, "wait 0", 5);
    bad(why, "wait 01", 5);
    bad(why, "yes 0", 4);
    bad(why, "yes 6", 4);
    bad(why, "no 0", 3);
    bad(why, "no 6", 3);
    bad(why, "no 51", 3);
    bad(why, "lose 60", 5);
    bad(why, "lose 99", 5);
    bad(why, "keep 60", 5);
    bad(why, "keep 99", 5);
    bad(why, "up 6", 3);
    bad(why, "up 10", 3);
    bad(why, "down 6 0 1", 5);
    bad(why, "down 10 0 1", 5);
    bad("its first digit, though what comes behind can't stand either", "wait 10x", 5);
    bad("its first digit, though it ends too early behind it", "down 6", 5);
    bad("its first digit, in a later ITEM", "plain;yes 1;lose 60;plain", 17);
  }

  private static void digits() {
    good("numbers of 1 or 2 digits", "sites 05", 1);
    good("numbers of 1 or 2 digits", "yes 01", 1);
    good("numbers of 1 or 2 digits", "no 05", 1);
    good("numbers of 1 or 2 digits", "wait 02", 1);
    good("numbers of 1 or 2 digits", "phases 03", 1);
    good("numbers of 1 or 2 digits", "lose 00", 1);
    good("numbers of 1 or 2 digits", "up 00", 1);
    good("numbers of 1 or 2 digits", "down 05 00 01", 1);
    test(9, "numbers of 2 digits count as what they say", () -> {
      CommitPrefixes x = of("sites 05;wait 07;lose 42");
      due("n", x.told(0), 5);
      due("WAIT", x.told(2), 7);
      due("lose(42)", x.lose(42, true), 1);
      due("lose(4)", x.lose(4, true), 0);
    });
    bad("as many as stand there up to 2: a third can't stand", "sites 001", 6);
    bad("as many as stand there up to 2: a third can't stand", "sites 012", 8);
    bad("as many as stand there up to 2: a third can't stand", "lose 590", 7);
    bad("as many as stand there up to 2: a third can't stand", "lose 059", 7);
    bad("as many as stand there up to 2: both are the number", "sites 12", 6);
    bad("as many as stand there up to 2: both are the number", "wait 99", 5);
    bad("as many as stand there up to 2: both are the number", "lose 600", 5);
    bad("what stands ahead of 0 is no digit", "sites /", 6);
    bad("what stands behind 9 is no digit", "sites :", 6);
    bad("what stands ahead of 0 is no digit", "sites 1/", 7);
    bad("what stands behind 9 is no digit", "sites 1:", 7);
    bad("no sign of a number", "sites -1", 6);
    bad("no sign of a number", "sites +1", 6);
    bad("a letter for a number", "sites x", 6);
    bad("a sign ; for a number", "sites ;plain", 6);
  }

  private static void blanks() {
    bad("One blank: none", "sites3", 5);
    bad("One blank: two", "sites  3", 6);
    bad("One blank: another sign", "sites\t3", 5);
    bad("One blank: another sign", "sites_3", 5);
    bad("One blank: two behind S", "down 1  2 3", 7);
    bad("One blank: two behind D", "down 1 2  3", 9);
    bad("One blank: another sign behind S", "down 1;2 3", 6);
    bad("One blank: another sign behind D", "down 1 2;3", 8);
    bad("no blank ahead of the first ITEM", " plain", 0);
    bad("no blank behind the last ITEM", "plain ", 5);
    bad("no blank behind the last ITEM", "wait 2 ", 6);
    bad("no blank ahead of ;", "plain ;plain", 5);
    bad("no blank ahead of ;", "wait 2 ;plain", 6);
    bad("no blank behind ;", "plain; plain", 6);
    bad("no number behind a word without one", "plain 1", 5);
    bad("no number behind a word without one", "presume 1", 7);
    bad("no further number", "wait 2 3", 6);
    bad("no further number", "down 1 2 3 4", 10);
  }

  private static void words() {
    String[] all = {"sites", "phases", "wait", "yes", "no", "lose", "keep", "down", "up", "presume", "plain"};
    for (String word : all) {
      for (int i = 0; i < word.length(); i++) {
        bad("a letter that can't stand", word.substring(0, i) + "#" + word.substring(i), i);
        bad("a word that ends too early", word.substring(0, i), i);
      }
      bad("a word with a letter more", word + "s", word.length());
      bad("a word in a later ITEM", "no 1;" + word.substring(0, word.length() - 1) + "#", 5 + word.length() - 1);
    }
    bad("no such word", "abort", 0);
    bad("no such word", "Sites 3", 0);
    bad("no such word", "SITES 3", 0);
    bad("of words that begin alike the one that goes on furthest", "plaxn", 3);
    bad("of words that begin alike the one that goes on furthest", "prxsume", 2);
    bad("of words that begin alike the one that goes on furthest", "phaze 2", 3);
    bad("of words that begin alike none goes on", "pp", 1);
    bad("another word's end", "plases 2", 3);
    bad("another word's end", "presites 2", 4);
    bad("another word's end", "nose 2", 2);
  }

  private static void endsTooEarly() {
    String why = "the number of elements, if it ends too early";
    bad(why, "", 0);
    bad(why, "s", 1);
    bad(why, "sites", 5);
    bad(why, "sites ", 6);
    bad(why, "plain;", 6);
    bad(why, "wait 2;", 7);
    bad(why, "wait 2;wai", 10);
    bad(why, "wait 2;wait", 11);
    bad(why, "wait 2;wait ", 12);
    bad(why, "down", 4);
    bad(why, "down ", 5);
    bad(why, "down 1", 6);
    bad(why, "down 1 ", 7);
    bad(why, "down 1 2", 8);
    bad(why, "down 1 2 ", 9);
    test(9, why + ": a new ROW of 0 elements", () -> {
      CommitPrefixes x = fresh();
      x.row(0, 3, 0);
      due("read", x.read(0), -6);
      due("fault", x.fault(), 0);
    });
  }

  private static void ticks() {
    good("TICKS 0 to 60", "down 0 0 60", 1);
    good("TICKS 0 to 60", "down 0 59 60", 1);
    good("TICKS 0 to 60", "down 0 0 1", 1);
    good("d less than u", "down 0 9 10", 1);
    bad("TICKS 0 to 60: D 61", "down 0 61 62", 7);
    bad("TICKS 0 to 60: D 99", "down 0 99 99", 7);
    bad("TICKS 0 to 60: U 61", "down 0 0 61", 9);
    bad("TICKS 0 to 60: U 61", "down 0 60 61", 10);
    bad("U not above D, too: the same", "down 0 5 5", 9);
    bad("U not above D, too: the same", "down 0 0 0", 9);
    bad("U not above D, too: the same", "down 0 60 60", 10);
    bad("U not above D, too: below", "down 0 5 4", 9);
    bad("U not above D, too: below", "down 0 10 9", 10);
    bad("U not above D, too: below", "down 0 59 06", 10);
    bad("U not above D, too: its first digit", "down 00 10 10", 11);
  }

  private static void signs() {
    good("any number of times ; and ITEM: none", "plain", 1);
    good("any number of times ; and ITEM: once", "plain;plain", 2);
    good("any number of times ; and ITEM: twice", "plain;wait 2;plain", 3);
    bad("; and ITEM: another sign", "plain,plain", 5);
    bad("; and ITEM: another sign", "plain:plain", 5);
    bad("; and ITEM: no ITEM between", "plain;;plain", 6);
    bad("; and ITEM: none ahead", ";plain", 0);
    bad("; and ITEM: ; alone", ";", 0);
    bad("; and ITEM: no ; between", "plainplain", 5);
    bad("; and ITEM: no ; between", "wait 2plain", 6);
    bad("; and ITEM: no ; between", "wait 2\nplain", 6);
  }

  private static void allOrNothing() {
    test(9, "All of it holds: the later of two wins", () -> due("told", of("sites 1;sites 4;sites 2").told(0), 2));
    String rest = "sites 5;phases 3;wait 9;presume;no 1;lose 3;down 0 1 2";
    test(9, "or nothing: a FAULT in the last ITEM", () -> {
      CommitPrefixes x = fresh();
      write(x, 0, 0, rest + ";wait 1");
      due("read", x.read(0), -6);
      int[] want = {3, 2, 4, 0, 14, 0, 0, 1};
      for (int what = 0; what < 8; what++) due("told(" + what + ")", x.told(what), want[what]);
      due("the run is as it was", x.decided(60, 0), 1);
    });
    test(9, "or nothing: a TEXT that ends too early", () -> {
      CommitPrefixes x = fresh();
      write(x, 0, 0, rest + ";");
      due("read", x.read(0), -6);
      int[] want = {3, 2, 4, 0, 14, 0, 0, 1};
      for (int what = 0; what < 8; what++) due("told(" + what + ")", x.told(what), want[what]);
    });
    test(9, "a TEXT that fails leaves nothing for the next one", () -> {
      CommitPrefixes x = fresh();
      write(x, 0, 0, rest + ";");
      x.read(0);
      write(x, 0, 0, "yes 1");
      due("read", x.read(0), 1);
      int[] want = {3, 2, 4, 0, 14, 0, 0, 1};
      for (int what = 0; what < 8; what++) due("told(" + what + ")", x.told(what), want[what]);
    });
    test(9, "the numbers of one ITEM are not those of the next", () -> {
      CommitPrefixes x = of("down 0 40 50;down 1 2 3");
      due("0 is away from 40", x.state(40, 0), 9);
      due("1 is away from 2", x.state(2, 1), 9);
      due("1 is UP at 3", x.state(3, 1), 3);
    });
    test(9, "the RUN is that of the TEXT, though another was told of ahead", () -> {
      CommitPrefixes x = fresh();
      due("sent", x.sent(60), 12);
      due("harm", x.harm(0), 0);
      write(x, 0, 0, "sites 2;phases 3;down 0 3 60");
      x.read(0);
      due("sent", x.sent(59), 8);
      due("harm", x.harm(0), 48);
    });
    test(9, "the ROW stays as it is", () -> {
      CommitPrefixes x = fresh();
      write(x, 0, 0, "wait 2");
      x.read(0);
      due("holds", x.holds(0), 100);
      due("again", x.read(0), 1);
    });
  }

  private static String repeated(String item, int times) {
    StringBuilder b = new StringBuilder();
    for (int i = 0; i < times; i++) b.append(item);
    return b.toString();
  }

  private static void lengths() {
    test(9, "a TEXT of 160 letters", () -> {
      String text = repeated("up 0;", 31) + "up 05";
      due("letters", text.length(), 160);
      read(text, 32, -1);
    });
    test(9, "a TEXT of 160 letters that ends too early", () -> read(repeated("up 0;", 32), -6, 160));
    test(9, "a TEXT of 160 letters whose last can't stand", () -> read(repeated("up 0;", 31) + "up 0x", -6, 159));
    test(9, "the shortest TEXT", () -> read("up 0", 1, -1));
    test(9, "the most ITEMS", () -> read(repeated("up 0;", 31) + "no 1", 32, -1));
  }

  private static void elements() {
    for (int sort = 0; sort < 4; sort++) {
      int of = sort;
      test(9, "a ROW of letters of SORT " + sort, () -> {
        CommitPrefixes x = fresh();
        write(x, 0, of, "wait 9;lose 59");
        due("read", x.read(0), 2);
        due("told", x.told(2), 9);
      });
    }
    test(9, "All is read as ints: of longs the lowest 32 bits", () -> {
      CommitPrefixes x = fresh();
      String text = "wait 9";
      x.row(0, 3, 6);
      for (int i = 0; i < 6; i++) x.set(0, i, text.charAt(i) + ((i - 3L) << 32));
      due("read", x.read(0), 1);
    });
    test(9, "All is read as ints: no fewer bits of a long", () -> {
      CommitPrefixes x = fresh();
      write(x, 0, 3, "wait 9");
      x.set(0, 5, '9' + (1L << 31));
      due("read", x.read(0), -6);
      due("fault", x.fault(), 5);
    });
    test(9, "All is read as ints: no fewer bits of an int", () -> {
      CommitPrefixes x = fresh();
      write(x, 0, 2, "wait 9");
      x.set(0, 4, ' ' + 65536);
      due("read", x.read(0), -6);
      due("fault", x.fault(), 4);
    });
    test(9, "All is read as ints: no fewer bits of a short", () -> {
      CommitPrefixes x = fresh();
      write(x, 0, 1, "wait 9");
      x.set(0, 0, 'w' + 256);
      due("read", x.read(0), -6);
      due("fault", x.fault(), 0);
    });
    test(9, "what is put in keeps its lowest bits, and they are read", () -> {
      CommitPrefixes x = fresh();
      String text = "wait 9";
      x.row(0, 0, 6);
      for (int i = 0; i < 6; i++) x.set(0, i, text.charAt(i) + 256 * (i - 3));
      due("read", x.read(0), 1);
    });
    test(9, "elements below 0 are no letters", () -> {
      CommitPrefixes x = fresh();
      write(x, 0, 0, "plain");
      x.set(0, 4, -1);
      due("read", x.read(0), -6);
      due("fault", x.fault(), 4);
    });
    test(9, "elements that are 0 are no end", () -> {
      CommitPrefixes x = fresh();
      write(x, 0, 0, "plain\0");
      due("read", x.read(0), -6);
      due("fault", x.fault(), 5);
    });
  }

  private static void refusals() {
    test(9, "-1 SHELVES -1 and 8", () -> {
      due("read", fresh().read(-1), -1);
      due("read", fresh().read(8), -1);
    });
    test(9, "-2 a MESSAGE", () -> {
      CommitPrefixes x = fresh();
      x.show(7, 0);
      due("read", x.read(7), -2);
    });
    test(9, "-3 NOTHING", () -> due("read", fresh().read(7), -3));
    test(9, "SHELVES 0 and 7", () -> {
      CommitPrefixes x = fresh();
      write(x, 0, 0, "plain");
      write(x, 7, 0, "plain");
      due("read", x.read(0), 1);
      due("read", x.read(7), 1);
    });
  }

  private static void latestFault() {
    test(10, "NONE: none yet", () -> due("fault", fresh().fault(), -1));
    test(10, "NONE: there was none", () -> due("fault", of("plain").fault(), -1));
    test(10, "the latest: a later one", () -> {
      CommitPrefixes x = read("wait 1", -6, 5);
      write(x, 0, 0, "wait");
      x.read(0);
      due("fault", x.fault(), 4);
    });
    test(10, "the latest: NONE behind one that is good", () -> {
      CommitPrefixes x = read("wait 1", -6, 5);
      write(x, 0, 0, "wait 2");
      x.read(0);
      due("fault", x.fault(), -1);
    });
    test(10, "that came to a ROW: no such SHELF leaves it", () -> {
      CommitPrefixes x = read("wait 1", -6, 5);
      x.read(8);
      due("fault", x.fault(), 5);
    });
    test(10, "that came to a ROW: a MESSAGE leaves it", () -> {
      CommitPrefixes x = read("wait 1", -6, 5);
      x.show(1, 0);
      x.read(1);
      due("fault", x.fault(), 5);
    });
    test(10, "that came to a ROW: NOTHING leaves it", () -> {
      CommitPrefixes x = read("wait 1", -6, 5);
      x.read(1);
      due("fault", x.fault(), 5);
    });
    test(10, "it stays when the ROW is another", () -> {
      CommitPrefixes x = read("wait 1", -6, 5);
      x.show(0, -1);
      due("fault", x.fault(), 5);
    });
    test(10, "it refuses nothing", () -> {
      CommitPrefixes x = fresh();
      x.fault();
      due("refusals", refusals(x), 0);
    });
  }
}
