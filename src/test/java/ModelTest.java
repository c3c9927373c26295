import java.util.ArrayList;
import java.util.Arrays;
import java.util.HashSet;
import java.util.List;
import java.util.Random;
import java.util.Set;
import java.util.TreeSet;
import java.util.regex.Matcher;
import java.util.regex.Pattern;

// Long random runs of calls, each answer compared with a second, slow writing of the document:
// all 61 ticks are always played, nothing is remembered between calls, texts go by a pattern.
public final class ModelTest {
  private static final int OBJECTS = 400;
  private static final int CALLS = 512;
  private static final int SETUPS = 1500;

  static final class Message {
    int which, from, to, at, fate = 3;
  }

  static final class Moment {
    int[] states;
    int[] lengths;
    int sent;
  }

  static final class Plan {
    int n = 3, phases = 2, wait = 4, seed = 1;
    boolean presumed;
    boolean[] yes = {true, true, true, true, true, true};
    Set<Integer> losses = new TreeSet<>();
    int[][] down = new int[6][];

    Plan twin() {
      Plan p = new Plan();
      p.n = n; p.phases = phases; p.wait = wait; p.seed = seed; p.presumed = presumed;
      p.yes = yes.clone();
      p.losses = new TreeSet<>(losses);
      for (int s = 0; s < 6; s++) p.down[s] = down[s] == null ? null : down[s].clone();
      return p;
    }
  }

  static final class Play {
    final Plan plan;
    final List<Message> messages = new ArrayList<>();
    final List<Moment> moments = new ArrayList<>();
    final List<List<String>> logs = new ArrayList<>();
    final String[] state = new String[6];
    final Integer[] timer = new Integer[6];
    final boolean[] up = {true, true, true, true, true, true};
    final Set<Integer> yes = new HashSet<>(), packs = new HashSet<>(), acks = new HashSet<>();
    String decision = "";
    int t;
    static final List<String> RECORDS = Arrays.asList("", "BEGIN", "READY", "PRE", "COMMIT", "ABORT", "END");
    static final List<String> KINDS =
        Arrays.asList("", "PREPARE", "YES", "NO", "PRE", "PACK", "COMMIT", "ABORT", "ACK", "ASK");

    Play(Plan plan) {
      this.plan = plan;
      for (int s = 0; s < 6; s++) { state[s] = "INIT"; logs.add(new ArrayList<>()); }
      for (t = 0; t <= 60; t++) tick();
    }

    void tick() {
      for (int s = 0; s <= plan.n; s++) if (plan.down[s] != null && plan.down[s][1] == t) { up[s] = true; recover(s); }
      for (int s = 0; s <= plan.n; s++) if (plan.down[s] != null && plan.down[s][0] == t) up[s] = false;
      for (int m = 0; m < messages.size(); m++) {
        Message x = messages.get(m);
        if (x.at != t - 1) continue;
        if (plan.losses.contains(m)) { x.fate = 1; continue; }
        if (!up[x.to]) { x.fate = 2; continue; }
        x.fate = 0;
        if (x.to == 0) coordinatorGets(KINDS.get(x.which), x.from); else participantGets(x.to, KINDS.get(x.which), x.from);
      }
      for (int s = 0; s <= plan.n; s++) {
        if (!up[s]) continue;
        if (s == 0 && t == 0) {
          note(0, "BEGIN"); state[0] = "WAITING"; toAll("PREPARE"); timer[0] = t + plan.wait;
        }
        if (timer[s] != null && timer[s] <= t) {
          timer[s] = null;
          if (s == 0) coordinatorWaited(); else participantWaited(s);
        }
      }
      Moment now = new Moment();
      now.states = new int[6];
      now.lengths = new int[6];
      for (int s = 0; s <= plan.n; s++) { now.states[s] = up[s] ? number(state[s]) : 9; now.lengths[s] = logs.get(s).size(); }
      now.sent = messages.size();
      moments.add(now);
    }

    static int number(String state) {
      switch (state) {
        case "INIT": return 0;
        case "WAITING": case "READY": return 1;
        case "PRE": return 2;
        case "COMMIT": return 3;
        case "ABORT": return 4;
        case "ENDED": return 5;
        default: throw new IllegalStateException(state);
      }
    }

    void note(int s, String what) { logs.get(s).add(what); }

    void send(String kind, int from, int to) {
      if (messages.size() > 199) return;
      Message m = new Message();
      m.which = KINDS.indexOf(kind); m.from = from; m.to = to; m.at = t;
      messages.add(m);
    }

    void toAll(String kind) { for (int p = 1; p <= plan.n; p++) send(kind, 0, p); }

    void decide(String what) {
      decision = what;
      acks.clear();
      if (what.equals("ABORT") && plan.presumed) {
        state[0] = "ENDED"; toAll("ABORT"); timer[0] = null;
      } else {
        note(0, what); state[0] = what; toAll(what); timer[0] = t + plan.wait;
      }
    }

    void coordinatorGets(String kind, int from) {
      String is = state[0];
      if (is.equals("WAITING") && kind.equals("YES")) {
        yes.add(from);
        if (yes.size() == plan.n) {
          if (plan.phases == 2) decide("COMMIT");
          else { note(0, "PRE"); state[0] = "PRE"; toAll("PRE"); timer[0] = t + plan.wait; }
        }
      } else if (is.equals("WAITING") && kind.equals("NO")) {
        decide("ABORT");
      } else if (is.equals("PRE") && kind.equals("PACK")) {
        packs.add(from);
        if (packs.size() == plan.n) decide("COMMIT");
      } else if ((is.equals("COMMIT") || is.equals("ABORT")) && kind.equals("ACK")) {
        acks.add(from);
        if (acks.size() == plan.n) { note(0, "END"); state[0] = "ENDED"; timer[0] = null; }
      } else if (kind.equals("ASK") && (is.equals("COMMIT") || is.equals("ABORT") || is.equals("ENDED"))) {
        send(decision, 0, from);
      }
    }

    void coordinatorWaited() {
      switch (state[0]) {
        case "WAITING": decide("ABORT"); break;
        case "PRE": decide("COMMIT"); break;
        case "COMMIT": case "ABORT":
          for (int p = 1; p <= plan.n; p++) if (!acks.contains(p)) send(state[0], 0, p);
          timer[0] = t + plan.wait;
          break;
        default: break;
      }
    }

    void participantGets(int p, String kind, int from) {
      String is = state[p];
      boolean over = is.equals("COMMIT") || is.equals("ABORT");
      switch (kind) {
        case "PREPARE":
          if (!is.equals("INIT")) break;
          if (plan.yes[p]) { note(p, "READY"); state[p] = "READY"; send("YES", p, 0); timer[p] = t + plan.wait; }
          else { note(p, "ABORT"); state[p] = "ABORT"; send("NO", p, 0); }
          break;
        case "PRE":
          if (is.equals("READY")) { note(p, "PRE"); state[p] = "PRE"; send("PACK", p, 0); timer[p] = t + plan.wait; }
          else if (is.equals("PRE")) send("PACK", p, 0);
          break;
        case "COMMIT": case "ABORT":
          if (!over) { note(p, kind); state[p] = kind; timer[p] = null; }
          if (!(kind.equals("ABORT") && plan.presumed)) send("ACK", p, 0);
          break;
        case "ASK":
          if (is.equals("INIT")) { note(p, "ABORT"); state[p] = "ABORT"; send("ABORT", p, from); }
          else if (over) send(is, p, from);
          break;
        default: break;
      }
    }

    void participantWaited(int p) {
      if (state[p].equals("READY")) {
        if (plan.phases == 2) {
          for (int s = 0; s <= plan.n; s++) if (s != p) send("ASK", p, s);
          timer[p] = t + plan.wait;
        } else { note(p, "ABORT"); state[p] = "ABORT"; }
      } else if (state[p].equals("PRE")) { note(p, "COMMIT"); state[p] = "COMMIT"; }
    }

    void recover(int s) {
      List<String> log = logs.get(s);
      String last = log.isEmpty() ? "" : log.get(log.size() - 1);
      timer[s] = null;
      if (s == 0) {
        yes.clear(); packs.clear(); acks.clear();
        switch (last) {
          case "": case "BEGIN": decide("ABORT"); break;
          case "PRE": state[0] = "PRE"; toAll("PRE"); timer[0] = t + plan.wait; break;
          case "END": state[0] = "ENDED"; decision = log.get(log.size() - 2); break;
          default: state[0] = last; decision = last; toAll(last); timer[0] = t + plan.wait; break;
        }
      } else {
        switch (last) {
          case "": note(s, "ABORT"); state[s] = "ABORT"; break;
          case "READY": state[s] = "READY"; timer[s] = t; break;
          case "PRE": state[s] = "PRE"; timer[s] = t + plan.wait; break;
          default: state[s] = last; break;
        }
      }
    }

    int decided(int tick, int s) {
      List<String> log = logs.get(s).subList(0, moments.get(tick).lengths[s]);
      if (log.contains("COMMIT")) return 1;
      if (log.contains("ABORT")) return 2;
      return s == 0 && plan.presumed && moments.get(tick).states[0] == 5 ? 2 : 0;
    }

    boolean alike(int tick) {
      for (int a = 0; a <= plan.n; a++) {
        for (int b = 0; b <= plan.n; b++) {
          int x = decided(tick, a), y = decided(tick, b);
          if (x != 0 && y != 0 && x != y) return false;
        }
      }
      return true;
    }

    int blocked() {
      int bits = 0;
      for (int p = 1; p <= plan.n; p++) {
        int is = moments.get(60).states[p];
        if (is == 1 || is == 2) bits |= 1 << p;
      }
      return bits;
    }

    int quiet() {
      for (int q = 0; q <= 60; q++) {
        boolean same = true;
        for (int k = q; k <= 60; k++) {
          same &= Arrays.equals(moments.get(k).states, moments.get(60).states)
              && Arrays.equals(moments.get(k).lengths, moments.get(60).lengths);
        }
        if (same) return q;
      }
      return 60;
    }
  }

  static final class Model {
    Plan plan = new Plan();
    Plan image;
    int fault = -1;
    int[] refusals = new int[8];
    int[] sort = new int[8];
    long[][] rows = new long[8][];
    Message[] shown = new Message[8];

    Play play() {
      return new Play(plan);
    }

    int no(int code) { refusals[-code]++; return code; }

    boolean shelf(int s) { return 0 <= s && s < 8; }

    int rowNeed(int s) {
      if (!shelf(s)) return -1;
      if (shown[s] != null) return -2;
      if (rows[s] == null) return -3;
      return 0;
    }

    int row(int s, int srt, int n) {
      if (!shelf(s)) return no(-1);
      if (n < 0) return no(-4);
      if (srt < 0 || srt > 3) return no(-6);
      if (n > 160) return no(-7);
      shown[s] = null; rows[s] = new long[n]; sort[s] = srt;
      return 1;
    }

    int set(int s, int i, long v) {
      int c = rowNeed(s);
      if (c != 0) return no(c);
      if (i < 0 || i >= rows[s].length) return no(-5);
      int bits = 8 << sort[s];
      rows[s][i] = v << (64 - bits) >> (64 - bits);
      return 1;
    }

    int copy(int p, int q, int i, int j, int n) {
      if (!shelf(p) || !shelf(q)) return no(-1);
      if (shown[p] != null || shown[q] != null) return no(-2);
      if (rows[p] != null && rows[q] != null && sort[p] != sort[q]) return no(-2);
      if (rows[p] == null || rows[q] == null) return no(-3);
      if (n < 0) return no(-4);
      if (i < 0 || j < 0 || n > rows[p].length - i || n > rows[q].length - j) return no(-5);
      long[] ahead = rows[p].clone();
      for (int k = 0; k < n; k++) rows[q][j + k] = ahead[i + k];
      return 1;
    }

    long element(int s, int i) {
      return rowNeed(s) != 0 || i < 0 || i >= rows[s].length ? 0 : rows[s][i];
    }

    int show(int s, int m) {
      if (!shelf(s)) return no(-1);
      if (m == -1) { rows[s] = null; shown[s] = null; return 0; }
      Play p = play();
      if (m < 0 || m >= p.messages.size()) return no(-1);
      rows[s] = null; shown[s] = p.messages.get(m);
      return 1;
    }

    int holds(int s) {
      if (!shelf(s)) return -1;
      if (shown[s] != null) return 200 + shown[s].which;
      return rows[s] != null ? 100 + sort[s] : -1;
    }

    int says(int s, int as) {
      if (!shelf(s) || as < 0 || as > 3) return no(-1);
      if (rows[s] != null) return no(-2);
      if (shown[s] == null) return no(-3);
      int w = shown[s].which;
      if (as == 0) return shown[s].from * 10 + shown[s].to;
      if (as == 1) return "2358".indexOf('0' + w) < 0 ? no(-2) : w == 2 ? 1 : 0;
      if (as == 2) return "67".indexOf('0' + w) < 0 ? no(-2) : w - 5;
      return w != 9 ? no(-2) : shown[s].at;
    }

    static final String ONE = "(sites|phases|wait|yes|no|lose|keep|up) [0-9]{1,2}+|down [0-9]{1,2}+ [0-9]{1,2}+ [0-9]{1,2}+|presume|plain";
    static final Pattern TEXT = Pattern.compile("(" + ONE + ")(;(" + ONE + "))*");

    static boolean mayBegin(String s) {
      Matcher m = TEXT.matcher(s);
      return m.matches() || m.hitEnd();
    }

    int read(int s) {
      int c = rowNeed(s);
      if (c != 0) return no(c);
      StringBuilder b = new StringBuilder();
      for (long v : rows[s]) { int letter = (int) v; b.append(letter < 0 || letter > 255 ? (char) 999 : (char) letter); }
      String text = b.toString();
      int good = 0;
      while (good < text.length() && mayBegin(text.substring(0, good + 1))) good++;
      fault = good == text.length() && TEXT.matcher(text).matches() ? -1 : good;
      Plan next = plan.twin();
      int place = 0;
      int items = 0;
      for (String item : text.substring(0, good).split(";", -1)) {
        String[] words = item.split(" ", -1);
        int at = place + words[0].length() + 1;
        int[] got = new int[4];
        for (int k = 1; k < words.length && !words[k].isEmpty(); k++) {
          got[k] = Integer.parseInt(words[k]);
          int low = 0, high = 60;
          if (k == 1) {
            switch (words[0]) {
              case "sites": case "yes": case "no": low = 1; high = 5; break;
              case "phases": low = 2; high = 3; break;
              case "wait": low = 2; high = 9; break;
              case "lose": case "keep": high = 59; break;
              default: high = 5; break;
            }
          } else if (k == 3) low = got[2] + 1;
          if (got[k] < low || got[k] > high) { fault = at; return no(-6); }
          at += words[k].length() + 1;
        }
        place += item.length() + 1;
        items++;
        switch (words[0]) {
          case "sites": next.n = got[1]; break;
          case "phases": next.phases = got[1]; break;
          case "wait": next.wait = got[1]; break;
          case "yes": next.yes[got[1]] = true; break;
          case "no": next.yes[got[1]] = false; break;
          case "lose": next.losses.add(got[1]); break;
          case "keep": next.losses.remove(got[1]); break;
          case "down": next.down[got[1]] = new int[] {got[2], got[3]}; break;
          case "up": next.down[got[1]] = null; break;
          case "presume": next.presumed = true; break;
          case "plain": next.presumed = false; break;
          default: break;
        }
      }
      if (fault != -1) return no(-6);
      plan = next;
      return items;
    }

    int put(int what, int v) {
      int was;
      switch (what) {
        case 0: if (v < 1 || v > 5) return no(-6); was = plan.n; plan.n = v; return was;
        case 1: if (v != 2 && v != 3) return no(-6); was = plan.phases; plan.phases = v; return was;
        case 2: if (v < 2 || v > 9) return no(-6); was = plan.wait; plan.wait = v; return was;
        case 3: if (v != 0 && v != 1) return no(-6); was = plan.presumed ? 1 : 0; plan.presumed = v == 1; return was;
        default: return no(-5);
      }
    }

    int vote(int p, boolean yes) {
      if (p < 1 || p > 5) return no(-1);
      int was = plan.yes[p] ? 1 : 0;
      plan.yes[p] = yes;
      return was;
    }

    int lose(int m, boolean is) {
      if (m < 0 || m > 59) return no(-1);
      return (is ? !plan.losses.add(m) : plan.losses.remove(m)) ? 1 : 0;
    }

    int down(int site, int d, int u) {
      if (site < 0 || site > 5) return no(-1);
      if (d == -1) { plan.down[site] = null; return 1; }
      if (d < 0 || u > 60 || d >= u) return no(-6);
      plan.down[site] = new int[] {d, u};
      return 1;
    }

    int told(int what) {
      int bits = 0;
      switch (what) {
        case 0: return plan.n;
        case 1: return plan.phases;
        case 2: return plan.wait;
        case 3: return plan.presumed ? 1 : 0;
        case 4: for (int p = 1; p <= plan.n; p++) bits += plan.yes[p] ? 1 << p : 0; return bits;
        case 5: return plan.losses.size();
        case 6: for (int s = 0; s <= plan.n; s++) bits += plan.down[s] != null ? 1 << s : 0; return bits;
        case 7: return plan.seed;
        default: return no(-5);
      }
    }

    int moment(int t, int site, int what) {
      if (site < 0 || site > plan.n) return no(-1);
      if (t < 0 || t > 60) return no(-6);
      Play p = play();
      return what == 0 ? p.moments.get(t).states[site] : what == 1 ? p.decided(t, site) : p.moments.get(t).lengths[site];
    }

    int record(int site, int i) {
      if (site < 0 || site > plan.n) return no(-1);
      List<String> log = play().logs.get(site);
      return i < 0 || i >= log.size() ? no(-5) : Play.RECORDS.indexOf(log.get(i));
    }

    int sent(int t) { return t < 0 || t > 60 ? no(-6) : play().moments.get(t).sent; }

    int message(int m, int what) {
      Play p = play();
      if (m < 0 || m >= p.messages.size() || what < 0 || what > 4) return no(-5);
      Message x = p.messages.get(m);
      return new int[] {x.which, x.from, x.to, x.at, x.fate}[what];
    }

    int alike(int t) { return t < 0 || t > 60 ? no(-6) : play().alike(t) ? 1 : 0; }

    int weigh(int part, boolean harm) {
      if (part != 0 && part != 1) return no(-5);
      int bits = 0;
      int sent = play().messages.size();
      for (int m = 30 * part; m < 30 * part + 30; m++) {
        if (m >= sent || plan.losses.contains(m)) continue;
        Plan other = plan.twin();
        other.losses.add(m);
        Play p = new Play(other);
        if (harm ? !p.alike(60) : p.blocked() != 0) bits |= 1 << (m - 30 * part);
      }
      return bits;
    }

    int recovery(int site, int k) {
      if (site < 0 || site > plan.n) return no(-1);
      List<String> log = play().logs.get(site);
      if (k < 0 || k > log.size()) return no(-5);
      Play p = play();
      p.t = 0;
      p.logs.set(site, new ArrayList<>(log.subList(0, k)));
      p.recover(site);
      return Play.number(p.state[site]);
    }

    int spared() {
      Plan a = plan.twin(), b = plan.twin();
      a.presumed = false; b.presumed = true;
      return new Play(a).messages.size() - new Play(b).messages.size();
    }

    int judge(int s, int site, int n) {
      if (!shelf(s) || site < 0 || site > plan.n) return no(-1) - 10;
      int c = rowNeed(s);
      if (c != 0) return no(c) - 10;
      if (n < 0) return no(-4) - 10;
      if (n > rows[s].length) return no(-5) - 10;
      if (n > 61) return no(-6) - 10;
      Play p = play();
      for (int t = 0; t < n; t++) if ((int) rows[s][t] != p.moments.get(t).states[site]) return t;
      return -1;
    }

    int drawn(int n) {
      if (n < 1 || n > 20) return no(-6);
      for (int i = 0; i < n; i++) {
        plan.seed = plan.seed * 1103515245 + 12345;
        plan.losses.add((plan.seed >> 16 & 0xFFFF) % 60);
      }
      return plan.losses.size();
    }

    int seed(int v) { int was = plan.seed; plan.seed = v; return was; }

    int image() { image = plan.twin(); return 1; }

    int restore() { if (image == null) return no(-6); plan = image.twin(); return 1; }

    int status(int what) {
      if (what >= 11 && what <= 17) return refusals[what - 10];
      if (what != 0) return -1;
      int full = 0;
      for (int s = 0; s < 8; s++) if (rows[s] != null || shown[s] != null) full++;
      return full;
    }
  }

  private static final Random random = new Random(20261118);
  private static CommitPrefixes x;
  private static Model y;
  private static final List<String> calls = new ArrayList<>();
  private static int wrong = 0;

  private static int in(int low, int high) { return high <= low ? low : low + random.nextInt(high - low + 1); }

  // Mostly a number that may be, now and then one at an edge or far off.
  private static int near(int low, int high) {
    switch (random.nextInt(16)) {
      case 0: return low - 1;
      case 1: return high + 1;
      case 2: return random.nextInt(8) == 0 ? random.nextInt() : in(low, high);
      default: return in(low, high);
    }
  }

  private static void compare(String call, long got, long want) {
    calls.add(call + " -> " + got);
    if (got == want) return;
    wrong++;
    if (wrong <= 5) {
      int from = Math.max(0, calls.size() - 40);
      System.out.println(String.join("\n", calls.subList(from, calls.size())) + ", due is " + want);
    }
  }

  private static String item() {
    int d = in(0, 58);
    switch (in(0, 12)) {
      case 0: return "sites " + near(1, 5);
      case 1: return "phases " + near(2, 3);
      case 2: return "wait " + near(2, 9);
      case 3: return "yes " + near(1, 5);
      case 4: return "no " + near(1, 5);
      case 5: return "lose " + near(0, 59);
      case 6: return "keep " + near(0, 59);
      case 7: case 8: return "down " + near(0, 5) + " " + d + " " + near(d + 1, 60);
      case 9: return "down 0 " + in(0, 9) + " " + near(10, 60);
      case 10: return "up " + near(0, 5);
      case 11: return "presume";
      default: return "plain";
    }
  }

  private static String text() {
    StringBuilder b = new StringBuilder(item());
    for (int i = in(0, 5); i > 0; i--) b.append(';').append(item());
    if (random.nextInt(3) == 0 && b.length() > 0) {
      int at = random.nextInt(b.length());
      String letters = "sitephaswaynolkdurm;; 0123456789x";
      char c = letters.charAt(random.nextInt(letters.length()));
      switch (in(0, 3)) {
        case 0: b.setCharAt(at, c); break;
        case 1: b.deleteCharAt(at); break;
        case 2: b.insert(at, c); break;
        default: b.setLength(at); break;
      }
    }
    if (b.length() > 160) b.setLength(160);
    return b.toString();
  }

  // The letters go in by set(), which needs calls: at most some texts to an object.
  private static int writeText() {
    String text = text();
    int s = in(0, 7);
    int sort = in(0, 3);
    compare("row(" + s + ", " + sort + ", " + text.length() + ")", x.row(s, sort, text.length()), y.row(s, sort, text.length()));
    for (int i = 0; i < text.length(); i++) { x.set(s, i, text.charAt(i)); y.set(s, i, text.charAt(i)); }
    compare("read '" + text + "'", x.read(s), y.read(s));
    compare("fault()", x.fault(), y.fault);
    return text.length() + 3;
  }

  private static int writeStates() {
    int s = in(0, 7), n = in(0, 61), site = in(0, y.plan.n);
    x.row(s, 0, n); y.row(s, 0, n);
    Play p = y.play();
    for (int t = 0; t < n; t++) {
      int v = random.nextInt(200) == 0 ? in(-1, 9) : p.moments.get(t).states[site];
      x.set(s, t, v); y.set(s, t, v);
    }
    compare("judge(" + s + ", " + site + ", " + n + ")", x.judge(s, site, n), y.judge(s, site, n));
    return n + 2;
  }

  private static void one(int which) {
    int a = 0, b = 0, c = 0, d = 0, e = 0;
    switch (which) {
      case 0: a = near(0, 7); b = near(0, 3); c = near(0, 160); compare("row(" + a + "," + b + "," + c + ")", x.row(a, b, c), y.row(a, b, c)); break;
      case 1: { a = near(0, 7); b = near(0, 100); long v = random.nextInt(3) == 0 ? random.nextLong() : in(0, 9);
        compare("set(" + a + "," + b + "," + v + ")", x.set(a, b, v), y.set(a, b, v)); break; }
      case 2: a = near(0, 7); b = near(0, 7); c = near(0, 20); d = near(0, 20); e = near(0, 40);
        compare("copy(" + a + "," + b + "," + c + "," + d + "," + e + ")", x.copy(a, b, c, d, e), y.copy(a, b, c, d, e)); break;
      case 3: a = near(0, 7); b = near(0, 100); compare("element(" + a + "," + b + ")", x.element(a, b), y.element(a, b)); break;
      case 4: a = near(0, 7); b = near(-1, 20); compare("show(" + a + "," + b + ")", x.show(a, b), y.show(a, b)); break;
      case 5: a = near(0, 7); compare("holds(" + a + ")", x.holds(a), y.holds(a)); break;
      case 6: a = near(0, 7); b = near(0, 3); compare("says(" + a + "," + b + ")", x.says(a, b), y.says(a, b)); break;
      case 7: a = near(0, 7); compare("read(" + a + ")", x.read(a), y.read(a)); break;
      case 8: compare("fault()", x.fault(), y.fault); break;
      case 9: a = near(0, 3); b = a == 0 ? near(1, 5) : a == 1 ? near(2, 3) : a == 2 ? near(2, 9) : near(0, 1);
        compare("put(" + a + "," + b + ")", x.put(a, b), y.put(a, b)); break;
      case 10: { a = near(1, 5); boolean yes = random.nextInt(4) != 0; compare("vote(" + a + "," + yes + ")", x.vote(a, yes), y.vote(a, yes)); break; }
      case 11: { a = random.nextBoolean() ? near(0, 59) : in(0, 15); boolean is = random.nextInt(5) < 2;
        compare("lose(" + a + "," + is + ")", x.lose(a, is), y.lose(a, is)); break; }
      case 12: a = near(0, 5); b = random.nextInt(3) == 0 ? -1 : random.nextBoolean() ? in(0, 12) : near(0, 59); c = random.nextBoolean() ? near(b + 1, 60) : in(b + 1, Math.max(b + 1, 60));
        compare("down(" + a + "," + b + "," + c + ")", x.down(a, b, c), y.down(a, b, c)); break;
      case 13: a = near(0, 7); compare("told(" + a + ")", x.told(a), y.told(a)); break;
      case 14: a = near(0, 60); b = near(0, 5); compare("state(" + a + "," + b + ")", x.state(a, b), y.moment(a, b, 0)); break;
      case 15: a = near(0, 60); b = near(0, 5); compare("decided(" + a + "," + b + ")", x.decided(a, b), y.moment(a, b, 1)); break;
      case 16: a = near(0, 60); b = near(0, 5); compare("records(" + a + "," + b + ")", x.records(a, b), y.moment(a, b, 2)); break;
      case 17: a = near(0, 5); b = near(0, 4); compare("record(" + a + "," + b + ")", x.record(a, b), y.record(a, b)); break;
      case 18: a = near(0, 60); compare("sent(" + a + ")", x.sent(a), y.sent(a)); break;
      case 19: a = random.nextInt(3) == 0 ? near(0, 200) : near(0, Math.max(0, y.play().messages.size() - 1)); b = near(0, 4);
        compare("message(" + a + "," + b + ")", x.message(a, b), y.message(a, b)); break;
      case 20: a = near(0, 60); compare("alike(" + a + ")", x.alike(a), y.alike(a)); break;
      case 21: compare("blocked()", x.blocked(), y.play().blocked()); break;
      case 22: compare("quiet()", x.quiet(), y.play().quiet()); break;
      case 23: a = near(0, 1); compare("harm(" + a + ")", x.harm(a), y.weigh(a, true)); break;
      case 24: a = near(0, 1); compare("block(" + a + ")", x.block(a), y.weigh(a, false)); break;
      case 25: a = near(0, 5); b = near(0, 3); compare("recovery(" + a + "," + b + ")", x.recovery(a, b), y.recovery(a, b)); break;
      case 26: compare("spared()", x.spared(), y.spared()); break;
      case 27: a = near(0, 7); b = near(0, 5); c = near(0, 70); compare("judge(" + a + "," + b + "," + c + ")", x.judge(a, b, c), y.judge(a, b, c)); break;
      case 28: a = near(1, 20); if (random.nextBoolean()) a = in(1, 2); compare("drawn(" + a + ")", x.drawn(a), y.drawn(a)); break;
      case 29: a = random.nextInt(); compare("seed(" + a + ")", x.seed(a), y.seed(a)); break;
      case 30: compare("image()", x.image(), y.image()); break;
      case 31: compare("restore()", x.restore(), y.restore()); break;
      default: a = random.nextBoolean() ? in(11, 17) : in(-1, 19); compare("status(" + a + ")", x.status(a), y.status(a)); break;
    }
  }

  private static void giveSetup() {
    int[] numbers = {in(1, 5), in(2, 3), in(2, 9), in(0, 1)};
    for (int w = 0; w < 4; w++) compare("put(" + w + "," + numbers[w] + ")", x.put(w, numbers[w]), y.put(w, numbers[w]));
    for (int p = 1; p <= 5; p++) {
      boolean yes = random.nextInt(8) != 0;
      compare("vote(" + p + "," + yes + ")", x.vote(p, yes), y.vote(p, yes));
    }
    for (int i = in(0, 4); i > 0; i--) {
      int m = in(0, random.nextBoolean() ? 15 : 59);
      compare("lose(" + m + ",true)", x.lose(m, true), y.lose(m, true));
    }
    for (int site = 0; site <= 5; site++) {
      if (random.nextInt(3) != 0) continue;
      int d = random.nextInt(4) == 0 ? in(0, 59) : in(0, 8);
      int u = random.nextInt(3) == 0 ? 60 : in(d + 1, random.nextBoolean() ? Math.min(60, d + 9) : 60);
      compare("down(" + site + "," + d + "," + u + ")", x.down(site, d, u), y.down(site, d, u));
    }
  }

  private static void compareAll(Play p) {
    for (int site = 0; site <= y.plan.n; site++) {
      for (int t = 0; t <= 60; t++) {
        compare("state(" + t + "," + site + ")", x.state(t, site), p.moments.get(t).states[site]);
        compare("decided(" + t + "," + site + ")", x.decided(t, site), p.decided(t, site));
        compare("records(" + t + "," + site + ")", x.records(t, site), p.moments.get(t).lengths[site]);
      }
      for (int i = 0; i <= p.logs.get(site).size(); i++) {
        compare("record(" + site + "," + i + ")", x.record(site, i), y.record(site, i));
        compare("recovery(" + site + "," + i + ")", x.recovery(site, i), y.recovery(site, i));
      }
    }
    for (int t = 0; t <= 60; t++) {
      compare("sent(" + t + ")", x.sent(t), p.moments.get(t).sent);
      compare("alike(" + t + ")", x.alike(t), p.alike(t) ? 1 : 0);
    }
    for (int m = 0; m < p.messages.size(); m++) {
      Message g = p.messages.get(m);
      int[] want = {g.which, g.from, g.to, g.at, g.fate};
      for (int w = 0; w < 5; w++) compare("message(" + m + "," + w + ")", x.message(m, w), want[w]);
    }
    compare("blocked()", x.blocked(), p.blocked());
    compare("quiet()", x.quiet(), p.quiet());
    compare("spared()", x.spared(), y.spared());
    for (int part = 0; part < 2; part++) {
      compare("harm(" + part + ")", x.harm(part), y.weigh(part, true));
      compare("block(" + part + ")", x.block(part), y.weigh(part, false));
    }
  }

  // Told once and asked all: more calls than promised, but none that changes anything.
  private static void wholeSetups() {
    int apart = 0, stuck = 0, full = 0, harmful = 0, blocking = 0;
    for (int i = 0; i < SETUPS && wrong == 0; i++) {
      x = new CommitPrefixes();
      y = new Model();
      calls.clear();
      giveSetup();
      Play p = y.play();
      compareAll(p);
      if (!p.alike(60)) apart++;
      else if ((x.harm(0) | x.harm(1)) != 0) harmful++;
      if (p.blocked() != 0) stuck++;
      else if ((x.block(0) | x.block(1)) != 0) blocking++;
      if (p.messages.size() == 200) full++;
    }
    System.out.println("of " + SETUPS + " set-ups: not alike " + apart + ", one loss from it " + harmful
        + ", blocked " + stuck + ", one loss from it " + blocking + ", 200 messages " + full);
  }

  public static void main(String[] args) {
    wholeSetups();
    for (int object = 0; object < OBJECTS && wrong == 0; object++) {
      x = new CommitPrefixes();
      y = new Model();
      calls.clear();
      if (random.nextBoolean()) y.put(1, x.put(1, 3) + 1);
      int made = 1;
      while (made < CALLS - 170) {
        int kind = random.nextInt(60);
        if (kind == 0) made += writeText();
        else if (kind == 1) made += writeStates();
        else {
          int which = random.nextInt(33);
          // draws make so many losses that little happens behind them
          if (which == 28 && random.nextInt(4) != 0) which = 14;
          if ((which == 23 || which == 24) && random.nextInt(2) != 0) which = 19;
          one(which);
          made++;
        }
      }
    }
    System.out.println(wrong == 0 ? "all answers are the model's" : wrong + " answers are not the model's");
    if (wrong != 0) System.exit(1);
  }
}
