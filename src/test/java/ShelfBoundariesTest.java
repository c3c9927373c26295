// SHELVES and ROWS (promises 2 to 8): each sentence that names a boundary.
public final class ShelfBoundariesTest extends Sentence {

  public static void main(String[] args) {
    shelves();
    rows();
    lowestBits();
    sets();
    copyEnds();
    copyOverlaps();
    copyRefusals();
    elements();
    shows();
    holding();
    saying();
    end();
  }

  private static CommitPrefixes ints(int n, int m) {
    CommitPrefixes x = fresh();
    x.row(0, 2, n);
    for (int i = 0; i < n; i++) x.set(0, i, 10 + i);
    x.row(1, 2, m);
    for (int i = 0; i < m; i++) x.set(1, i, 50 + i);
    return x;
  }

  private static void dueRow(CommitPrefixes x, int s, long... want) {
    for (int i = 0; i < want.length; i++) due("element(" + s + ", " + i + ")", x.element(s, i), want[i]);
  }

  private static void shelves() {
    test(2, "SHELVES 0 to 7: row at 0", () -> due("row", fresh().row(0, 0, 1), 1));
    test(2, "SHELVES 0 to 7: row at 7", () -> due("row", fresh().row(7, 0, 1), 1));
    test(2, "SHELVES 0 to 7: row at -1", () -> due("row", fresh().row(-1, 0, 1), -1));
    test(2, "SHELVES 0 to 7: row at 8", () -> due("row", fresh().row(8, 0, 1), -1));
    test(3, "SHELVES 0 to 7: set at -1", () -> due("set", fresh().set(-1, 0, 1), -1));
    test(3, "SHELVES 0 to 7: set at 8", () -> due("set", fresh().set(8, 0, 1), -1));
    test(3, "SHELVES 0 to 7: set at 7", () -> {
      CommitPrefixes x = fresh();
      x.row(7, 0, 1);
      due("set", x.set(7, 0, 9), 1);
      due("element", x.element(7, 0), 9);
    });
    test(4, "SHELVES 0 to 7: copy from 0 to 7 and back", () -> {
      CommitPrefixes x = fresh();
      x.row(0, 0, 2);
      x.row(7, 0, 2);
      x.set(0, 0, 4);
      due("copy", x.copy(0, 7, 0, 1, 1), 1);
      due("copy", x.copy(7, 0, 1, 1, 1), 1);
      dueRow(x, 7, 0, 4);
      dueRow(x, 0, 4, 4);
    });
    test(4, "SHELVES 0 to 7: copy from -1", () -> due("copy", ints(2, 2).copy(-1, 1, 0, 0, 1), -1));
    test(4, "SHELVES 0 to 7: copy from 8", () -> due("copy", ints(2, 2).copy(8, 1, 0, 0, 1), -1));
    test(4, "SHELVES 0 to 7: copy to -1", () -> due("copy", ints(2, 2).copy(0, -1, 0, 0, 1), -1));
    test(4, "SHELVES 0 to 7: copy to 8", () -> due("copy", ints(2, 2).copy(0, 8, 0, 0, 1), -1));
    test(6, "SHELVES 0 to 7: show at 0 and 7", () -> {
      due("show", fresh().show(0, 0), 1);
      due("show", fresh().show(7, 0), 1);
    });
    test(6, "SHELVES 0 to 7: show at -1", () -> due("show", fresh().show(-1, 0), -1));
    test(6, "SHELVES 0 to 7: show at 8", () -> due("show", fresh().show(8, 0), -1));
    test(6, "SHELVES 0 to 7: show NOTHING at 8", () -> due("show", fresh().show(8, -1), -1));
    test(8, "SHELVES 0 to 7: says of 0 and 7", () -> {
      CommitPrefixes x = fresh();
      x.show(0, 2);
      x.show(7, 2);
      due("says", x.says(0, 0), 3);
      due("says", x.says(7, 0), 3);
    });
    test(8, "SHELVES 0 to 7: says of -1", () -> due("says", fresh().says(-1, 0), -1));
    test(8, "SHELVES 0 to 7: says of 8", () -> due("says", fresh().says(8, 0), -1));
    test(2, "SHELVES hold NOTHING (at first)", () -> {
      CommitPrefixes x = fresh();
      for (int s = 0; s < 8; s++) due("holds", x.holds(s), -1);
      due("status(0)", x.status(0), 0);
    });
  }

  private static void rows() {
    test(2, "0 to 160 elements: 0", () -> {
      CommitPrefixes x = fresh();
      due("row", x.row(0, 0, 0), 1);
      due("holds", x.holds(0), 100);
      due("status(0)", x.status(0), 1);
    });
    for (int sort = 0; sort < 4; sort++) {
      int of = sort;
      test(2, "0 to 160 elements: 160 of SORT " + sort, () -> {
        CommitPrefixes x = fresh();
        due("row", x.row(0, of, 160), 1);
        due("set the last", x.set(0, 159, 7), 1);
        due("element", x.element(0, 159), 7);
        due("set behind it", x.set(0, 160, 7), -5);
      });
      test(2, "-7 n above 160: 161 of SORT " + sort, () -> due("row", fresh().row(0, of, 161), -7));
      test(2, "a SORT " + sort + " may be", () -> {
        CommitPrefixes x = fresh();
        due("row", x.row(3, of, 1), 1);
        due("holds", x.holds(3), 100 + of);
      });
    }
    test(2, "-7 n above 160: the greatest int", () -> due("row", fresh().row(0, 0, FAR), -7));
    test(2, "-4 a size below 0: -1", () -> due("row", fresh().row(0, 0, -1), -4));
    test(2, "-4 a size below 0: the least int", () -> due("row", fresh().row(0, 0, LOW), -4));
    test(2, "-6 SORT: -1", () -> due("row", fresh().row(0, -1, 1), -6));
    test(2, "-6 SORT: 4", () -> due("row", fresh().row(0, 4, 1), -6));
    test(2, "a new ROW: elements 0 at first", () -> {
      CommitPrefixes x = fresh();
      x.row(0, 3, 160);
      for (int i = 0; i < 160; i++) x.set(0, i, -1);
      due("row", x.row(0, 3, 160), 1);
      for (int i = 0; i < 160; i++) due("element", x.element(0, i), 0);
    });
    test(2, "a new ROW: a shorter one has no elements behind its end", () -> {
      CommitPrefixes x = fresh();
      x.row(0, 0, 5);
      x.set(0, 4, 9);
      x.row(0, 0, 4);
      due("set", x.set(0, 4, 1), -5);
      due("element", x.element(0, 4), 0);
      x.row(0, 0, 5);
      due("element", x.element(0, 4), 0);
    });
    test(2, "a new ROW: in a MESSAGE's place", () -> {
      CommitPrefixes x = fresh();
      x.show(0, 0);
      due("row", x.row(0, 1, 2), 1);
      due("holds", x.holds(0), 101);
      due("set", x.set(0, 1, 5), 1);
    });
    test(2, "a refused row leaves the SHELF as it was", () -> {
      CommitPrefixes x = ints(2, 2);
      x.row(0, 0, 161);
      x.row(0, 4, 1);
      x.row(0, 0, -1);
      due("holds", x.holds(0), 102);
      dueRow(x, 0, 10, 11);
    });
  }

  private static void keeps(int sort, long put, long kept) {
    test(3, "what is put in keeps its lowest bits: " + put + " in SORT " + sort, () -> {
      CommitPrefixes x = fresh();
      x.row(0, sort, 1);
      due("set", x.set(0, 0, put), 1);
      due("element", x.element(0, 0), kept);
    });
  }

  private static void lowestBits() {
    keeps(0, 127, 127);
    keeps(0, 128, -128);
    keeps(0, -128, -128);
    keeps(0, -129, 127);
    keeps(0, 255, -1);
    keeps(0, 256, 0);
    keeps(0, Long.MIN_VALUE, 0);
    keeps(0, Long.MAX_VALUE, -1);
    keeps(1, 32767, 32767);
    keeps(1, 32768, -32768);
    keeps(1, -32769, 32767);
    keeps(1, 65536, 0);
    keeps(1, 256, 256);
    keeps(2, FAR, FAR);
    keeps(2, FAR + 1L, LOW);
    keeps(2, LOW - 1L, FAR);
    keeps(2, 1L << 32, 0);
    keeps(2, 65536, 65536);
    keeps(3, 1L << 32, 1L << 32);
    keeps(3, Long.MAX_VALUE, Long.MAX_VALUE);
    keeps(3, Long.MIN_VALUE, Long.MIN_VALUE);
  }

  private static void sets() {
    test(3, "-5 an element that isn't there: -1", () -> due("set", ints(3, 0).set(0, -1, 1), -5));
    test(3, "-5 an element that isn't there: just behind the last", () -> due("set", ints(3, 0).set(0, 3, 1), -5));
    test(3, "the first and the last element", () -> {
      CommitPrefixes x = ints(3, 0);
      due("set", x.set(0, 0, 1), 1);
      due("set", x.set(0, 2, 2), 1);
      dueRow(x, 0, 1, 11, 2);
    });
    test(3, "-5 of a ROW of 0 elements: 0", () -> due("set", ints(0, 0).set(0, 0, 1), -5));
    test(3, "-5 an element that isn't there: the greatest and the least int", () -> {
      due("set", ints(3, 0).set(0, FAR, 1), -5);
      due("set", ints(3, 0).set(0, LOW, 1), -5);
    });
    test(3, "-3 a SHELF that holds NOTHING", () -> due("set", fresh().set(0, 0, 1), -3));
    test(3, "-2 a MESSAGE where a ROW is wanted", () -> {
      CommitPrefixes x = fresh();
      x.show(0, 0);
      due("set", x.set(0, 0, 1), -2);
      due("holds", x.holds(0), 201);
    });
  }

  private static void copyEnds() {
    test(4, "n of 0: nothing is copied", () -> {
      CommitPrefixes x = ints(3, 2);
      due("copy", x.copy(0, 1, 0, 0, 0), 1);
      dueRow(x, 1, 50, 51);
    });
    test(4, "n of 0 at both ends", () -> due("copy", ints(3, 2).copy(0, 1, 3, 2, 0), 1));
    test(4, "n of 0 behind the end of p", () -> due("copy", ints(3, 2).copy(0, 1, 4, 0, 0), -5));
    test(4, "n of 0 behind the end of q", () -> due("copy", ints(3, 2).copy(0, 1, 0, 3, 0), -5));
    test(4, "n of 0 of ROWS of 0 elements", () -> due("copy", ints(0, 0).copy(0, 1, 0, 0, 0), 1));
    test(4, "n of 1 of ROWS of 0 elements", () -> due("copy", ints(0, 0).copy(0, 1, 0, 0, 1), -5));
    test(4, "-4 n below 0: -1", () -> due("copy", ints(3, 2).copy(0, 1, 1, 1, -1), -4));
    test(4, "-4 n below 0: the least int", () -> due("copy", ints(3, 2).copy(0, 1, 1, 1, LOW), -4));
    test(4, "-5 i below 0", () -> due("copy", ints(3, 2).copy(0, 1, -1, 0, 1), -5));
    test(4, "-5 i below 0, n of 0", () -> due("copy", ints(3, 2).copy(0, 1, -1, 0, 0), -5));
    test(4, "-5 j below 0", () -> due("copy", ints(3, 2).copy(0, 1, 0, -1, 1), -5));
    test(4, "-5 j below 0, n of 0", () -> due("copy", ints(3, 2).copy(0, 1, 0, -1, 0), -5));
    test(4, "up to the last of p", () -> {
      CommitPrefixes x = ints(3, 5);
      due("copy", x.copy(0, 1, 1, 0, 2), 1);
      dueRow(x, 1, 11, 12, 52, 53, 54);
    });
    test(4, "-5 an end of p that isn't there", () -> {
      CommitPrefixes x = ints(3, 5);
      due("copy", x.copy(0, 1, 1, 0, 3), -5);
      dueRow(x, 1, 50, 51, 52, 53, 54);
    });
    test(4, "up to the last of q", () -> {
      CommitPrefixes x = ints(5, 3);
      due("copy", x.copy(0, 1, 0, 1, 2), 1);
      dueRow(x, 1, 50, 10, 11);
    });
    test(4, "-5 an end of q that isn't there", () -> {
      CommitPrefixes x = ints(5, 3);
      due("copy", x.copy(0, 1, 0, 1, 3), -5);
      dueRow(x, 1, 50, 51, 52);
    });
    test(4, "-5 an end above all ints", () -> {
      due("copy", ints(3, 3).copy(0, 1, 1, 0, FAR), -5);
      due("copy", ints(3, 3).copy(0, 1, 0, 1, FAR), -5);
      due("copy", ints(3, 3).copy(0, 1, FAR, 0, 1), -5);
      due("copy", ints(3, 3).copy(0, 1, 0, FAR, 1), -5);
      due("copy", ints(3, 3).copy(0, 1, FAR, FAR, FAR), -5);
    });
    test(4, "all 160", () -> {
      CommitPrefixes x = fresh();
      x.row(0, 0, 160);
      x.row(1, 0, 160);
      for (int i = 0; i < 160; i++) x.set(0, i, i % 100);
      due("copy", x.copy(0, 1, 0, 0, 160), 1);
      for (int i = 0; i < 160; i++) due("element", x.element(1, i), i % 100);
    });
    test(4, "all 64 bits of longs", () -> {
      CommitPrefixes x = fresh();
      x.row(0, 3, 1);
      x.row(1, 3, 1);
      x.set(0, 0, Long.MIN_VALUE + 5);
      x.copy(0, 1, 0, 0, 1);
      due("element", x.element(1, 0), Long.MIN_VALUE + 5);
    });
    test(4, "p stays as it is", () -> {
      CommitPrefixes x = ints(3, 3);
      x.copy(0, 1, 0, 0, 3);
      dueRow(x, 0, 10, 11, 12);
    });
  }

  private static void copyOverlaps() {
    test(4, "as they were ahead: one ROW, upwards", () -> {
      CommitPrefixes x = ints(5, 0);
      due("copy", x.copy(0, 0, 0, 1, 4), 1);
      dueRow(x, 0, 10, 10, 11, 12, 13);
    });
    test(4, "as they were ahead: one ROW, downwards", () -> {
      CommitPrefixes x = ints(5, 0);
      due("copy", x.copy(0, 0, 1, 0, 4), 1);
      dueRow(x, 0, 11, 12, 13, 14, 14);
    });
    test(4, "as they were ahead: one ROW, to where they are", () -> {
      CommitPrefixes x = ints(5, 0);
      due("copy", x.copy(0, 0, 0, 0, 5), 1);
      dueRow(x, 0, 10, 11, 12, 13, 14);
    });
  }

  private static CommitPrefixes mixed() {
    CommitPrefixes x = ints(2, 2);
    x.row(2, 3, 2);
    x.show(3, 0);
    return x;
  }

  private static void copyRefusals() {
    test(4, "-2 of two SORTS", () -> {
      CommitPrefixes x = mixed();
      due("copy", x.copy(0, 2, 0, 0, 1), -2);
      due("copy", x.copy(2, 0, 0, 0, 1), -2);
    });
    test(4, "-2 of two SORTS, n of 0", () -> due("copy", mixed().copy(0, 2, 0, 0, 0), -2));
    test(4, "-2 of two SORTS only when both hold something", () -> {
      CommitPrefixes x = mixed();
      due("copy", x.copy(0, 4, 0, 0, 1), -3);
      due("copy", x.copy(4, 2, 0, 0, 1), -3);
    });
    test(4, "-3 either: NOTHING in both", () -> due("copy", mixed().copy(4, 5, 0, 0, 1), -3));
    test(4, "-3 either: a SHELF that held a ROW of another SORT", () -> {
      CommitPrefixes x = mixed();
      x.show(2, -1);
      due("copy", x.copy(0, 2, 0, 0, 1), -3);
      due("copy", x.copy(2, 0, 0, 0, 1), -3);
    });
    test(4, "-2 a MESSAGE in p", () -> due("copy", mixed().copy(3, 0, 0, 0, 0), -2));
    test(4, "-2 a MESSAGE in q", () -> due("copy", mixed().copy(0, 3, 0, 0, 0), -2));
    test(4, "-2 a MESSAGE in both", () -> due("copy", mixed().copy(3, 3, 0, 0, 0), -2));
    test(4, "-2 ahead of -3: a MESSAGE and NOTHING", () -> {
      due("copy", mixed().copy(3, 4, 0, 0, 0), -2);
      due("copy", mixed().copy(4, 3, 0, 0, 0), -2);
    });
  }

  private static void elements() {
    test(5, "0 if there is none: just behind the last", () -> due("element", ints(3, 0).element(0, 3), 0));
    test(5, "0 if there is none: -1", () -> due("element", ints(3, 0).element(0, -1), 0));
    test(5, "0 if there is none: a ROW of 0 elements", () -> due("element", ints(0, 0).element(0, 0), 0));
    test(5, "0 if there is none: SHELVES -1 and 8", () -> {
      due("element", fresh().element(-1, 0), 0);
      due("element", fresh().element(8, 0), 0);
    });
    test(5, "0 if there is none: NOTHING", () -> due("element", fresh().element(0, 0), 0));
    test(5, "0 if there is none: a MESSAGE in a ROW's place", () -> {
      CommitPrefixes x = ints(3, 0);
      x.show(0, 0);
      due("element", x.element(0, 0), 0);
    });
    test(5, "0 if there is none: NOTHING in a ROW's place", () -> {
      CommitPrefixes x = ints(3, 0);
      x.show(0, -1);
      due("element", x.element(0, 0), 0);
    });
    test(5, "nothing is refused", () -> {
      CommitPrefixes x = ints(3, 0);
      x.show(2, 0);
      int[][] calls = {{0, 3}, {0, -1}, {8, 0}, {-1, 0}, {2, 0}, {4, 0}, {FAR, FAR}, {LOW, LOW}};
      for (int[] c : calls) due("element", x.element(c[0], c[1]), 0);
      due("refusals", refusals(x), 0);
    });
  }

  private static void shows() {
    test(6, "-1 also one that isn't SENT: the last and one behind it", () -> {
      CommitPrefixes x = fresh();
      due("show", x.show(0, 11), 1);
      due("holds", x.holds(0), 208);
      due("show", x.show(1, 12), -1);
      due("holds", x.holds(1), -1);
    });
    test(6, "the first, number 0", () -> {
      CommitPrefixes x = fresh();
      due("show", x.show(0, 0), 1);
      due("holds", x.holds(0), 201);
    });
    test(6, "-1 a number below NONE", () -> {
      due("show", fresh().show(0, -2), -1);
      due("show", fresh().show(0, LOW), -1);
    });
    test(6, "-1 a number above all", () -> due("show", fresh().show(0, FAR), -1));
    test(6, "numbers 59, 60, 199 and 200", () -> {
      CommitPrefixes x = of("sites 5;wait 2;down 0 2 60");
      due("show(59)", x.show(0, 59), 1);
      due("show(60)", x.show(0, 60), 1);
      due("show(199)", x.show(0, 199), 1);
      due("show(200)", x.show(0, 200), -1);
      due("it holds 199 still", x.says(0, 0), 35);
    });
    test(6, "one that is SENT and a LOSS is shown", () -> {
      CommitPrefixes x = of("lose 0");
      due("show", x.show(0, 0), 1);
      due("holds", x.holds(0), 201);
    });
    test(6, "NOTHING (m NONE): 0", () -> {
      CommitPrefixes x = ints(1, 1);
      x.show(2, 0);
      due("a ROW", x.show(0, -1), 0);
      due("a MESSAGE", x.show(2, -1), 0);
      due("NOTHING already", x.show(3, -1), 0);
      due("holds", x.holds(0), -1);
      due("holds", x.holds(2), -1);
      due("status(0)", x.status(0), 1);
      due("refusals", refusals(x), 0);
    });
    test(6, "what it is in the RUN as things are then", () -> {
      CommitPrefixes x = fresh();
      x.show(0, 3);
      x.put(0, 1);
      due("2 is YES of 1 now", x.show(1, 1), 1);
      due("kept as it was", x.says(0, 0), 10);
      x.vote(1, false);
      due("kept as it was", x.holds(1), 202);
      x.show(2, 1);
      due("NO as things are now", x.holds(2), 203);
    });
    test(6, "what isn't SENT any more stays in its SHELF", () -> {
      CommitPrefixes x = fresh();
      x.show(0, 11);
      x.put(0, 1);
      due("holds", x.holds(0), 208);
      due("says", x.says(0, 0), 30);
      due("show", x.show(0, 11), -1);
      due("holds", x.holds(0), 208);
    });
  }

  private static void holding() {
    test(7, "NONE: no such SHELF", () -> {
      for (int s : new int[] {-1, 8, FAR, LOW}) due("holds", fresh().holds(s), -1);
    });
    test(7, "NONE: NOTHING", () -> due("holds", fresh().holds(0), -1));
    test(7, "it refuses nothing", () -> {
      CommitPrefixes x = fresh();
      x.holds(8);
      x.holds(0);
      due("refusals", refusals(x), 0);
    });
    test(7, "100 and the SORT of a ROW, of 0 elements too", () -> {
      for (int sort = 0; sort < 4; sort++) {
        CommitPrefixes x = fresh();
        x.row(0, sort, 0);
        due("holds", x.holds(0), 100 + sort);
      }
    });
    test(7, "200 and which of 1 to 9", () -> {
      for (int which = 1; which <= 9; which++) due("holds", holder(which).holds(0), 200 + which);
    });
  }

  /** SHELF 0 holds a MESSAGE that is which of 1 to 9. */
  private static CommitPrefixes holder(int which) {
    String[] texts = {"sites 1", "sites 1", "sites 1;no 1", "sites 1;phases 3", "sites 1;phases 3",
        "sites 1", "sites 1;no 1", "sites 1", "sites 1;down 0 2 9"};
    int[] numbers = {0, 1, 1, 2, 3, 2, 2, 3, 2};
    CommitPrefixes x = of(texts[which - 1]);
    x.show(0, numbers[which - 1]);
    return x;
  }

  private static void saying() {
    int[][] want = {
        {1, -2, -2, -2}, {10, 1, -2, -2}, {10, 0, -2, -2}, {1, -2, -2, -2}, {10, 0, -2, -2},
        {1, -2, 1, -2}, {1, -2, 2, -2}, {10, 0, -2, -2}, {10, -2, -2, 5}};
    for (int which = 1; which <= 9; which++) {
      int of = which;
      for (int as = 0; as <= 3; as++) {
        int by = as;
        test(8, "of which " + which + " taken for " + as, () -> due("says", holder(of).says(0, by), want[of - 1][by]));
      }
    }
    test(8, "-1 as: -1", () -> due("says", holder(1).says(0, -1), -1));
    test(8, "-1 as: 4", () -> due("says", holder(1).says(0, 4), -1));
    test(8, "-1 as, ahead of a ROW's -2", () -> due("says", ints(1, 1).says(0, 4), -1));
    test(8, "-1 as, ahead of NOTHING's -3", () -> due("says", fresh().says(0, -1), -1));
    test(8, "-2 a ROW where a MESSAGE is wanted", () -> {
      for (int as = 0; as <= 3; as++) due("says", ints(1, 1).says(0, as), -2);
    });
    test(8, "-3 NOTHING", () -> {
      for (int as = 0; as <= 3; as++) due("says", fresh().says(0, as), -3);
    });
    test(8, "-3 NOTHING where a MESSAGE was", () -> {
      CommitPrefixes x = holder(9);
      x.show(0, -1);
      due("says", x.says(0, 3), -3);
    });
    test(8, "-2 a ROW where a MESSAGE was", () -> {
      CommitPrefixes x = holder(9);
      x.row(0, 0, 1);
      due("says", x.says(0, 3), -2);
    });
    test(8, "10 times the SITE it is from: 5 to 0, 0 to 5, 5 to 4", () -> {
      CommitPrefixes x = of("sites 5;down 0 2 9");
      x.show(0, 4);
      x.show(1, 9);
      x.show(2, 34);
      due("PREPARE", x.says(0, 0), 5);
      due("YES", x.says(1, 0), 50);
      due("ASK", x.says(2, 0), 54);
    });
    test(8, "an ASK: the TICK it was SENT at, 60 too", () -> {
      CommitPrefixes x = of("sites 1;wait 2;lose 2;down 1 3 60");
      int last = x.sent(60) - 1;
      x.show(0, last);
      due("holds", x.holds(0), 209);
      due("says", x.says(0, 3), 60);
    });
  }
}
