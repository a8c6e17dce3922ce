import java.util.ArrayList;
import java.util.HashMap;
import java.util.LinkedHashMap;
import java.util.List;
import java.util.Map;
import java.util.TreeMap;
import java.util.TreeSet;

// Long runs of arbitrary calls, each answer against that of a second telling of the document, which
// is written otherwise: by whole histories, maps and searches without a tree.
public final class AgainstReferenceTest {
  static final int NONE = -1, BAD = -2, OTHER = -3, NOTHING = -4, STUCK = -5, FULL = -6;

  static final class One {
    int kind, a, cell, faces, isFor;
    One(int kind, int a, int cell, int faces, int isFor) {
      this.kind = kind; this.a = a; this.cell = cell; this.faces = faces; this.isFor = isFor;
    }
    One again() { return new One(kind, a, cell, faces, isFor); }
  }

  static final class World {
    int side = 5, left = 0, old = 0, doubt = 3, years = 0, fallen = 0, seed = 1;
    TreeSet<Integer> ponds = new TreeSet<>();
    List<One> people = new ArrayList<>();

    World again() {
      World w = new World();
      w.side = side; w.left = left; w.old = old; w.doubt = doubt; w.years = years; w.fallen = fallen; w.seed = seed;
      w.ponds = new TreeSet<>(ponds);
      for (One one : people) w.people.add(one.again());
      return w;
    }
    boolean cell(int c) { return c >= 0 && c / 10 < side && c % 10 < side; }
    boolean one(int p) { return p >= 0 && p < people.size(); }
    boolean somebody(int c) { for (One one : people) if (one.cell == c) return true; return false; }
    List<Integer> all() {
      List<Integer> cells = new ArrayList<>();
      for (int r = 0; r < side; r++) for (int c = 0; c < side; c++) cells.add(10 * r + c);
      return cells;
    }
    int beside(int c, int faces) {
      int to = faces == 0 ? c - 10 : faces == 1 ? c + 1 : faces == 2 ? c + 10 : c - 1;
      return c % 10 == 0 && faces == 3 || !cell(to) ? NONE : to;
    }
    boolean shore(int c) {
      for (int f = 0; f < 4; f++) if (ponds.contains(beside(c, f))) return true;
      return false;
    }
  }

  // where one is behind each SIGN: {cell, faces, fell by}
  static final class Way {
    final List<int[]> at = new ArrayList<>();
    int[] end() { return at.get(at.size() - 1); }
  }

  static Way way(World w, One one, int left, String telling) {
    Way way = new Way();
    int cell = one.cell, faces = one.faces, fell = NONE;
    List<Integer> bys = new ArrayList<>();
    StringBuilder turns = new StringBuilder();
    way.at.add(new int[] {cell, faces, fell});
    for (int i = 0; i < telling.length(); i++) {
      char sign = telling.charAt(i);
      if (fell == NONE && sign == '0') {
        int to = w.beside(cell, faces);
        if (to != NONE) cell = to;
        if (w.ponds.contains(cell)) fell = i;
      } else if (fell == NONE && sign != '3') {
        int by;
        int turn = turns.length();
        if (one.kind == 0) by = left;
        else if (one.kind == 1) by = w.old;
        else if (one.kind == 3) by = one.isFor;
        else if (one.kind == 2) by = turn % 2 == 0 ? left : 1 - left;
        else if (one.kind == 4) by = w.shore(cell) ? 1 - left : left;
        else {
          by = left;
          for (int t = 1; t <= turn; t++) {
            char now = t == turn ? sign : turns.charAt(t);
            if (now == turns.charAt(t - 1)) by = 1 - by;
          }
        }
        turns.append(sign);
        bys.add(by);
        int clock = by == 1 ? 1 : -1;
        if (sign == '2') clock = -clock;
        faces = Math.floorMod(faces + clock, 4);
      }
      way.at.add(new int[] {cell, faces, fell});
    }
    return way;
  }

  static final class Reference {
    World w = new World();
    World kept = null;
    String tape = "";
    Map<Integer, long[]> rows = new HashMap<>();
    Map<Integer, Integer> sorts = new HashMap<>();
    Map<Integer, Integer> shown = new HashMap<>();
    int[] refusals = new int[7];

    int no(int why) { refusals[-why]++; return why; }
    static boolean shelf(int s) { return s >= 0 && s <= 7; }
    static boolean in(int v, int a, int b) { return a <= v && v <= b; }
    void clear(int s) { rows.remove(s); sorts.remove(s); shown.remove(s); }
    boolean nothing(int s) { return !rows.containsKey(s) && !shown.containsKey(s); }

    long element(int s, int i) {
      long[] r = rows.get(s);
      return r == null || i < 0 || i >= r.length ? 0 : r[i];
    }
    int holds(int s) { return rows.containsKey(s) ? sorts.get(s) : shown.containsKey(s) ? 10 + shown.get(s) : NONE; }

    int shelfCalls(String name, int a, int b, int c, int d, int e, long v) {
      switch (name) {
        case "row":
          if (!shelf(a) || !in(b, 0, 4) || !in(c, 0, 40)) return no(BAD);
          clear(a); rows.put(a, new long[c]); sorts.put(a, b);
          return 1;
        case "set":
          if (!shelf(a)) return no(BAD);
          if (shown.containsKey(a)) return no(OTHER);
          if (nothing(a)) return no(NOTHING);
          if (!in(b, 0, rows.get(a).length - 1)) return no(BAD);
          int sort = sorts.get(a);
          int bits = sort == 0 ? 56 : sort == 1 ? 48 : sort == 2 ? 32 : 0;
          rows.get(a)[b] = sort == 4 ? (v == 0 ? 0 : 1) : v << bits >> bits;
          return 1;
        case "copy":
          if (!shelf(a) || !shelf(b)) return no(BAD);
          if (shown.containsKey(a) || shown.containsKey(b)) return no(OTHER);
          if (sorts.containsKey(a) && sorts.containsKey(b) && !sorts.get(a).equals(sorts.get(b))) return no(OTHER);
          if (nothing(a) || nothing(b)) return no(NOTHING);
          if (e < 0 || c < 0 || d < 0 || (long) c + e > rows.get(a).length || (long) d + e > rows.get(b).length) return no(BAD);
          long[] were = rows.get(a).clone();
          for (int i = 0; i < e; i++) rows.get(b)[d + i] = were[c + i];
          return e;
        case "show":
          if (!shelf(a) || b != NONE && !w.one(b)) return no(BAD);
          clear(a);
          if (b != NONE) shown.put(a, b);
          return 1;
        default: // says
          if (!shelf(a) || !in(b, 0, 5)) return no(BAD);
          if (rows.containsKey(a)) return no(OTHER);
          if (nothing(a)) return no(NOTHING);
          One one = w.people.get(shown.get(a));
          boolean is = b == one.kind || b == 0 || b == 1 && one.kind == 3 || b == 2 && one.kind == 4;
          if (!is) return no(OTHER);
          return b == 0 ? one.a : way(w, one, w.left, "1").end()[1];
      }
    }

    int worldCalls(String name, int a, int b, int c, int d) {
      int was;
      switch (name) {
        case "side":
          if (!in(a, 3, 7) || a < w.side) return no(BAD);
          was = w.side; w.side = a; return was;
        case "pond":
          if (!w.cell(a)) return no(BAD);
          if (b == 1 && w.somebody(a)) return no(STUCK);
          was = w.ponds.contains(a) ? 1 : 0;
          if (b == 1) w.ponds.add(a); else w.ponds.remove(a);
          return was;
        case "person":
          if (!in(a, 0, 5) || !in(b, 0, 9) || !w.cell(c) || !in(d, 0, 3)) return no(BAD);
          if (w.ponds.contains(c)) return no(STUCK);
          if (w.people.size() == 8) return no(FULL);
          w.people.add(new One(a, b, c, d, 0));
          return w.people.size() - 1;
        case "tell":
          if (a == 0 && in(b, 0, 1)) { was = w.left; w.left = b; return was; }
          if (a == 1 && in(b, 0, 1)) { was = w.old; w.old = b; return was; }
          if (a == 2 && in(b, 0, 12)) { was = w.doubt; w.doubt = b; return was; }
          return no(BAD);
        case "isFor":
          if (!w.one(a) || !in(b, 0, 1)) return no(BAD);
          was = w.people.get(a).isFor; w.people.get(a).isFor = b; return was;
        case "put":
          if (!w.one(a) || !w.cell(b) || !in(c, 0, 3)) return no(BAD);
          if (w.ponds.contains(b)) return no(STUCK);
          was = w.people.get(a).cell; w.people.get(a).cell = b; w.people.get(a).faces = c; return was;
        case "personOf":
          if (!w.one(a) || !in(b, 0, 5)) return no(BAD);
          One p = w.people.get(a);
          return new int[] {p.kind, p.a, p.cell, p.faces, p.isFor, power(a)}[b];
        case "isPond": return !w.cell(a) ? no(BAD) : w.ponds.contains(a) ? 1 : 0;
        case "open":
          if (!w.cell(a) || !in(b, 0, 3)) return no(BAD);
          int many = 0;
          for (int at = w.beside(a, b); at != NONE && !w.ponds.contains(at); at = w.beside(at, b)) many++;
          return many;
        default: // shore
          int shores = 0;
          for (int cell : w.all()) if (!w.ponds.contains(cell) && w.shore(cell)) shores++;
          return shores;
      }
    }

    int weight(int set) { int sum = 0; for (int p = 0; p < w.people.size(); p++) if ((set & 1 << p) != 0) sum += w.people.get(p).a; return sum; }
    int power(int p) {
      int many = 0, all = weight(255);
      for (int set = 0; set < 1 << w.people.size(); set++) {
        if ((set & 1 << p) == 0 && weight(set) <= all / 2.0 && weight(set | 1 << p) > all / 2.0) many++;
      }
      return many;
    }
    int carries(int flips) {
      int[] sums = new int[2];
      for (int p = 0; p < w.people.size(); p++) sums[w.people.get(p).isFor ^ (flips >> p & 1)] += w.people.get(p).a;
      return sums[1] > sums[0] ? 1 : sums[1] < sums[0] ? 0 : w.left;
    }
    int voteCalls(String name, int a) {
      int n = w.people.size();
      switch (name) {
        case "bloc":
          if (!in(a, 0, 1)) return no(BAD);
          int sum = 0;
          for (One one : w.people) if (one.isFor == a) sum += one.a;
          return sum;
        case "swing": return !w.one(a) ? no(BAD) : carries(1 << a) == carries(0) ? 0 : 1;
        case "mightiest":
          if (n == 0) return no(STUCK);
          int best = n - 1;
          for (int p = n - 1; p >= 0; p--) if (power(p) >= power(best)) best = p;
          return best;
        case "agreed":
          int bits = 0;
          for (int p = 0; p < n; p++) {
            One one = w.people.get(p);
            int clock = Math.floorMod(way(w, one, w.left, "1").end()[1] - one.faces, 4) == 1 ? 1 : 0;
            if (clock == w.left) bits += 1 << p;
          }
          return bits;
        case "carries": return carries(0);
        case "turn":
          if (!in(a, 0, 1)) return no(BAD);
          for (int size = 0; size <= n; size++) {
            for (int set = 0; set < 1 << n; set++) {
              if (Integer.bitCount(set) == size && carries(set) != carries(0)) return a == 0 ? size : set;
            }
          }
          return NONE;
        case "years":
          if (!in(a, 1, 60)) return no(BAD);
          for (int y = 0; y < a; y++) {
            int next = carries(0);
            w.old = w.left;
            w.left = next;
            for (One one : w.people) {
              w.seed = (int) (w.seed * 1103515245L + 12345L);
              int upper = w.seed >> 16 & 0xFFFF;
              if (upper % 12 < w.doubt) one.isFor ^= 1;
            }
            w.years++;
          }
          return w.left;
        case "seed": { int was = w.seed; w.seed = a; return was; }
        case "image": kept = w.again(); return 1;
        default: // back
          if (kept == null) return no(STUCK);
          w = kept.again();
          for (int s = 0; s < 8; s++) if (shown.containsKey(s) && !w.one(shown.get(s))) shown.remove(s);
          return 1;
      }
    }

    int status(int what) {
      int[] all = {w.people.size(), w.side, w.left, w.old, w.doubt, w.ponds.size(), w.years, w.fallen, tape.length(),
          w.seed, rows.size() + shown.size(), NONE, refusals[2], refusals[3], refusals[4], refusals[5], refusals[6]};
      return in(what, 0, 16) ? all[what] : NONE;
    }

    int feed(int letter) {
      if (!in(letter, 0, 255)) return no(BAD);
      if (tape.length() == 250) return no(FULL);
      tape += (char) letter;
      return tape.length();
    }
    int wipe() { int size = tape.length(); tape = ""; return size; }

    // what each word wants: N s side, c cell, d dry or not, ...
    static final Map<String, String> WANTS = new LinkedHashMap<>();
    static {
      WANTS.put("side", "s"); WANTS.put("pond", "p"); WANTS.put("dry", "c"); WANTS.put("person", "kanf");
      WANTS.put("is", "xb"); WANTS.put("left", "b"); WANTS.put("old", "b"); WANTS.put("doubt", "d");
    }
    int island() {
      List<String> tokens = new ArrayList<>();
      List<Integer> places = new ArrayList<>();
      java.util.regex.Matcher m = java.util.regex.Pattern.compile("[a-z]+|[0-9]+|[^ ]", java.util.regex.Pattern.DOTALL).matcher(tape);
      while (m.find()) { tokens.add(m.group()); places.add(m.start()); }
      tokens.add("");
      places.add(tape.length());
      tape = "";
      World trial = w.again();
      int at = 0, statements = 0;
      while (true) {
        String word = tokens.get(at);
        String wants = WANTS.get(word);
        if (wants == null || word.equals("person") && trial.people.size() == 8) return no(BAD) * 0 - 20 - places.get(at);
        at++;
        int[] v = new int[4];
        for (int i = 0; i < wants.length(); i++, at++) {
          String number = tokens.get(at);
          if (!number.matches("[0-9]{1,2}")) return no(BAD) * 0 - 20 - places.get(at);
          v[i] = Integer.parseInt(number);
          if (!may(trial, wants.charAt(i), v[i])) return no(BAD) * 0 - 20 - places.get(at);
        }
        switch (word) {
          case "side": trial.side = v[0]; break;
          case "pond": trial.ponds.add(v[0]); break;
          case "dry": trial.ponds.remove(v[0]); break;
          case "person": trial.people.add(new One(v[0], v[1], v[2], v[3], 0)); break;
          case "is": trial.people.get(v[0]).isFor = v[1]; break;
          case "left": trial.left = v[0]; break;
          case "old": trial.old = v[0]; break;
          default: trial.doubt = v[0];
        }
        statements++;
        String next = tokens.get(at);
        if (next.isEmpty()) { w = trial; return statements; }
        if (!next.equals(";")) return no(BAD) * 0 - 20 - places.get(at);
        at++;
      }
    }
    static boolean may(World t, char want, int v) {
      switch (want) {
        case 's': return in(v, t.side, 7);
        case 'p': return t.cell(v) && !t.somebody(v);
        case 'c': return t.cell(v);
        case 'n': return t.cell(v) && !t.ponds.contains(v);
        case 'k': return v <= 5;
        case 'a': return v <= 9;
        case 'f': return v <= 3;
        case 'x': return t.one(v);
        case 'b': return v <= 1;
        default: return v <= 12;
      }
    }

    int fault(int s, int n, boolean signs) {
      if (shown.containsKey(s)) return OTHER;
      if (nothing(s)) return NOTHING;
      if (rows.get(s).length < n) return BAD;
      return signs && wrong(s, n) != NONE ? STUCK : 0;
    }
    int wrong(int s, int n) {
      for (int i = 0; i < n; i++) if (rows.get(s)[i] < 0 || rows.get(s)[i] > 3) return i;
      return NONE;
    }
    String telling(int s, int n) {
      StringBuilder b = new StringBuilder();
      for (int i = 0; i < n; i++) b.append(rows.get(s)[i]);
      return b.toString();
    }
    static One as(One one, int kind, int cell, int faces) { return new One(kind, one.a, cell, faces, one.isFor); }

    int tellingCalls(String name, int s, int n, int a, int b, int c) {
      boolean ok = shelf(s) && in(n, 0, 40);
      switch (name) {
        case "comes": ok &= w.one(a) && in(b, 0, 2); break;
        case "kinds": ok &= w.one(a) && w.cell(b) && in(c, 0, 1); break;
        case "who": ok &= w.cell(a); break;
        case "crowd": ok &= in(a, 0, 1); break;
        case "differ": ok &= w.one(a) && w.one(b) && a != b; break;
        case "again": ok &= w.one(a) && in(b, 0, 20); break;
        case "ponds": case "alike": case "ring": case "idle": case "walk": ok &= w.one(a); break;
        default: break;
      }
      if (!ok) return no(BAD);
      int fault = fault(s, n, !name.equals("judge"));
      if (fault != 0) return no(fault);
      if (name.equals("judge")) return wrong(s, n);
      String t = telling(s, n);
      Map<Integer, Integer> outs = new TreeMap<>();
      List<int[]> ends = new ArrayList<>();
      for (One one : w.people) {
        int[] end = way(w, one, w.left, t).end();
        ends.add(end);
        outs.merge(end[0], 1, Integer::sum);
      }
      int answer = 0;
      switch (name) {
        case "comes": return ends.get(a)[b];
        case "fell": for (int[] end : ends) if (end[2] != NONE) answer++; return answer;
        case "ponds":
          for (int cell : w.all()) {
            One one = w.people.get(a);
            if (!w.ponds.contains(cell) && way(w, as(one, one.kind, cell, one.faces), w.left, t).end()[2] != NONE) answer++;
          }
          return answer;
        case "kinds":
          for (int k = 0; k < (c == 0 ? 6 : 2); k++) {
            One one = w.people.get(a);
            int[] end = c == 0 ? way(w, as(one, k, one.cell, one.faces), w.left, t).end() : way(w, one, k, t).end();
            if (end[0] == b) answer += 1 << k;
          }
          return answer;
        case "who": for (int p = 0; p < ends.size(); p++) if (ends.get(p)[0] == a) answer += 1 << p; return answer;
        case "crowd":
          if (ends.isEmpty()) return no(STUCK);
          int best = NONE;
          for (int cell : outs.keySet()) if (best == NONE || outs.get(cell) > outs.get(best)) best = cell;
          return a == 0 ? best : outs.get(best);
        case "firstFall":
          answer = NONE;
          for (int[] end : ends) if (end[2] != NONE && (answer == NONE || end[2] < answer)) answer = end[2];
          return answer;
        case "alike":
          int[] e0 = way(w, w.people.get(a), 0, t).end(), e1 = way(w, w.people.get(a), 1, t).end();
          return e0[0] == e1[0] && e0[1] == e1[1] ? 1 : 0;
        case "differ":
          One first = w.people.get(a), second = w.people.get(b);
          Way w0 = way(w, first, w.left, t), w1 = way(w, as(second, second.kind, first.cell, first.faces), w.left, t);
          for (int i = 1; i <= n; i++) if (w0.at.get(i)[0] != w1.at.get(i)[0] || w0.at.get(i)[1] != w1.at.get(i)[1]) return i;
          return NONE;
        case "again": return way(w, w.people.get(a), w.left, t.repeat(b)).end()[0];
        case "ring":
          for (int times = 1; times <= 20; times++) {
            int[] end = way(w, w.people.get(a), w.left, t.repeat(times)).end();
            if (end[0] == w.people.get(a).cell && end[1] == w.people.get(a).faces) return times;
          }
          return NONE;
        case "lonely": for (int p = 0; p < ends.size(); p++) if (outs.get(ends.get(p)[0]) == 1) answer += 1 << p; return answer;
        case "idle":
          Way way = way(w, w.people.get(a), w.left, t);
          for (int i = 0; i < n; i++) if (way.at.get(i)[0] == way.at.get(i + 1)[0]) answer++;
          return answer;
        default: // walk
          Way walk = way(w, w.people.get(a), w.left, t);
          int[] end = walk.end();
          if (end[2] != NONE) { w.fallen++; end = walk.at.get(end[2]); }
          w.people.get(a).cell = end[0];
          w.people.get(a).faces = end[1];
          return end[0];
      }
    }

    int meetCalls(String name, int s, int n, int a, int t, int m, int b) {
      if (!shelf(s) || !shelf(t) || !in(n, 0, 40) || !in(m, 0, 40) || !w.one(a) || !w.one(b) || a == b) return no(BAD);
      for (int why : new int[] {OTHER, NOTHING, BAD, STUCK}) if (fault(s, n, true) == why || fault(t, m, true) == why) return no(why);
      if (name.equals("meet")) return meet(telling(s, n), a, telling(t, m), b);
      for (int k = 0; k <= 9; k++) if (meet(telling(s, n), a, "3".repeat(k) + telling(t, m), b) == NONE) return k;
      return NONE;
    }
    int meet(String t, int a, String u, int b) {
      Way x = way(w, w.people.get(a), w.left, t + "3".repeat(60)), y = way(w, w.people.get(b), w.left, u + "3".repeat(60));
      for (int i = 0; i <= Math.max(t.length(), u.length()); i++) {
        int p = x.at.get(i)[0], q = y.at.get(i)[0];
        if (p == q || i > 0 && p == y.at.get(i - 1)[0] && q == x.at.get(i - 1)[0]) return i;
      }
      return NONE;
    }

    // all tellings of one length, by rows
    static List<String> tellings(int length) {
      List<String> all = new ArrayList<>();
      all.add("");
      for (int i = 0; i < length; i++) {
        List<String> longer = new ArrayList<>();
        for (String t : all) for (char c = '0'; c <= '2'; c++) longer.add(t + c);
        all = longer;
      }
      return all;
    }
    int searchCalls(String name, int a, int b, int c, int d) {
      switch (name) {
        case "safe":
          if (!w.one(a) || !w.cell(b) || !in(c, 0, 1) || d < NONE) return no(BAD);
          String t = safe(w.people.get(a), b, c);
          if (d == NONE) return t == null ? NONE : t.length();
          return t == null || d >= t.length() ? no(STUCK) : t.charAt(d) - '0';
        case "lefts":
          if (!w.one(a) || !in(b, 0, 3)) return no(BAD);
          for (int k = 0; k <= 20; k++) if (way(w, w.people.get(a), w.left, "1".repeat(k)).end()[1] == b) return k;
          return NONE;
        default: // reach
          if (!w.one(a) || !in(b, 0, 6)) return no(BAD);
          TreeSet<Integer> cells = new TreeSet<>();
          for (int k = 0; k <= b; k++) {
            for (String u : tellings(k)) {
              int[] end = way(w, w.people.get(a), w.left, u).end();
              if (end[2] == NONE) cells.add(end[0]);
            }
          }
          return cells.size();
      }
    }
    String safe(One one, int cell, int what) {
      for (int length = 0; length <= 6; length++) {
        for (String t : tellings(length)) {
          boolean ok = true;
          for (int left = 0; left < 2; left++) {
            int[] end = way(w, one, left, t).end();
            if (what == 0 || left == w.left) ok &= end[0] == cell && end[2] == NONE;
          }
          if (ok) return t;
        }
      }
      return null;
    }
  }

  static final class Draws {
    long state;
    Draws(long seed) { state = seed * 0x9E3779B97F4A7C15L + 0x1234567L; }
    int below(int n) {
      state ^= state << 13;
      state ^= state >>> 7;
      state ^= state << 17;
      return (int) Math.floorMod(state >>> 11, (long) n);
    }
  }

  static final int[] STRANGE = {Integer.MIN_VALUE, Integer.MAX_VALUE, -1, -2, 100, 1 << 30, -(1 << 20), 41, 8, 67, 70};

  static final class Run {
    final LeftIsAgreedOn x = new LeftIsAgreedOn();
    final Reference r = new Reference();
    final Draws draws;
    final boolean wild;
    final List<String> told = new ArrayList<>();
    Run(long seed) { draws = new Draws(seed); wild = seed % 4 == 0; }

    int num(int least, int most) {
      int odds = wild ? 8 : 40;
      if (draws.below(odds) == 0) return STRANGE[draws.below(STRANGE.length)];
      if (draws.below(odds) == 0) return draws.below(2) == 0 ? least - 1 : most + 1;
      return least + draws.below(most - least + 1);
    }
    int shelf() { return num(0, wild ? 7 : 3); }
    // where PEOPLE are shown, mostly
    int stage() { return draws.below(8) == 0 ? shelf() : num(5, 6); }
    int cell() {
      if (draws.below(6) == 0) return num(0, 66);
      return 10 * num(0, r.w.side - 1) + num(0, r.w.side - 1);
    }
    int one() { return num(0, Math.max(0, r.w.people.size() - 1)); }
    int length(int s) {
      long[] row = r.rows.get(s);
      return row == null || draws.below(12) == 0 ? num(0, 40) : num(0, row.length);
    }

    boolean same(String call, long got, long want) {
      told.add(call + " = " + got);
      if (got == want) return true;
      System.out.println(call + " answered " + got + ", due is " + want + ", behind:");
      for (String line : told) System.out.println("  " + line);
      return false;
    }

    boolean call(int which) {
      int a, b, c, d, e, f;
      switch (which) {
        case 0: a = wild ? shelf() : num(2, 4); b = num(0, 4); c = num(0, 40); return same("row " + a + " " + b + " " + c, x.row(a, b, c), r.shelfCalls("row", a, b, c, 0, 0, 0));
        case 1: a = shelf(); b = length(a) - 1; long v = draws.below(5) > 0 ? draws.below(4) : (long) num(-300, 300) * (draws.below(2) == 0 ? 1 : 0x123456789L);
          return same("set " + a + " " + b + " " + v, x.set(a, b, v), r.shelfCalls("set", a, b, 0, 0, 0, v));
        case 2: a = shelf(); b = shelf(); c = num(0, 6) * draws.below(2); d = num(0, 6) * draws.below(2); e = num(0, 8);
          return same("copy " + a + " " + b + " " + c + " " + d + " " + e, x.copy(a, b, c, d, e), r.shelfCalls("copy", a, b, c, d, e, 0));
        case 3: a = shelf(); b = length(a); return same("element " + a + " " + b, x.element(a, b), r.element(a, b));
        case 4: a = shelf(); return same("holds " + a, x.holds(a), r.holds(a));
        case 5: a = stage(); b = draws.below(3) == 0 ? NONE : one(); return same("show " + a + " " + b, x.show(a, b), r.shelfCalls("show", a, b, 0, 0, 0, 0));
        case 6: a = stage(); b = draws.below(3) == 0 || !r.shown.containsKey(a) ? num(0, 5) : r.w.people.get(r.shown.get(a)).kind; return same("says " + a + " " + b, x.says(a, b), r.shelfCalls("says", a, b, 0, 0, 0, 0));
        case 7: a = draws.below(4) == 0 ? num(3, 7) : num(3, 5); return same("side " + a, x.side(a), r.worldCalls("side", a, 0, 0, 0));
        case 8: a = cell(); b = draws.below(2); return same("pond " + a + " " + b, x.pond(a, b == 1), r.worldCalls("pond", a, b, 0, 0));
        case 9: a = num(0, 5); b = num(0, 9); c = cell(); d = num(0, 3);
          return same("person " + a + " " + b + " " + c + " " + d, x.person(a, b, c, d), r.worldCalls("person", a, b, c, d));
        case 10: a = num(0, 2); b = a == 2 ? num(0, 12) : num(0, 1); return same("tell " + a + " " + b, x.tell(a, b), r.worldCalls("tell", a, b, 0, 0));
        case 11: a = one(); b = num(0, 1); return same("isFor " + a + " " + b, x.isFor(a, b), r.worldCalls("isFor", a, b, 0, 0));
        case 12: a = one(); b = cell(); c = num(0, 3); return same("put " + a + " " + b + " " + c, x.put(a, b, c), r.worldCalls("put", a, b, c, 0));
        case 13: a = num(0, 255); return same("feed " + a, x.feed(a), r.feed(a));
        case 14: return same("wipe", x.wipe(), r.wipe());
        case 15: return readIsland();
        case 16: a = one(); b = num(0, 5); return same("personOf " + a + " " + b, x.personOf(a, b), r.worldCalls("personOf", a, b, 0, 0));
        case 17: a = cell(); return same("isPond " + a, x.isPond(a), r.worldCalls("isPond", a, 0, 0, 0));
        case 18: a = cell(); b = num(0, 3); return same("open " + a + " " + b, x.open(a, b), r.worldCalls("open", a, b, 0, 0));
        case 19: return same("shore", x.shore(), r.worldCalls("shore", 0, 0, 0, 0));
        case 20: a = num(0, 1); return same("bloc " + a, x.bloc(a), r.voteCalls("bloc", a));
        case 21: a = one(); return same("swing " + a, x.swing(a), r.voteCalls("swing", a));
        case 22: return same("mightiest", x.mightiest(), r.voteCalls("mightiest", 0));
        case 23: return same("agreed", x.agreed(), r.voteCalls("agreed", 0));
        case 24: return same("carries", x.carries(), r.voteCalls("carries", 0));
        case 25: a = num(0, 1); return same("turn " + a, x.turn(a), r.voteCalls("turn", a));
        case 26: a = draws.below(5) == 0 ? num(1, 60) : num(1, 3); return same("years " + a, x.years(a), r.voteCalls("years", a));
        case 27: a = num(-1000000, 1000000); return same("seed " + a, x.seed(a), r.voteCalls("seed", a));
        case 28: return same("image", x.image(), r.voteCalls("image", 0));
        case 29: return same("back", x.back(), r.voteCalls("back", 0));
        case 30: a = num(0, 16); return same("status " + a, x.status(a), r.status(a));
        case 31: a = one(); b = cell(); c = num(0, 1); d = draws.below(2) == 0 ? NONE : num(0, 5);
          return same("safe " + a + " " + b + " " + c + " " + d, x.safe(a, b, c, d), r.searchCalls("safe", a, b, c, d));
        case 32: a = one(); b = num(0, 3); return same("lefts " + a + " " + b, x.lefts(a, b), r.searchCalls("lefts", a, b, 0, 0));
        case 33: a = one(); b = num(0, 6); return same("reach " + a + " " + b, x.reach(a, b), r.searchCalls("reach", a, b, 0, 0));
        case 34: case 35:
          a = shelf(); b = length(a); c = one(); d = shelf(); e = length(d); f = one();
          String args = a + " " + b + " " + c + " " + d + " " + e + " " + f;
          return which == 34 ? same("meet " + args, x.meet(a, b, c, d, e, f), r.meetCalls("meet", a, b, c, d, e, f))
              : same("waits " + args, x.waits(a, b, c, d, e, f), r.meetCalls("waits", a, b, c, d, e, f));
        case 36: return fill();
        default: return telling(which - 37);
      }
    }

    boolean telling(int which) {
      String[] names = {"comes", "fell", "ponds", "kinds", "who", "crowd", "firstFall", "alike", "differ", "again", "ring", "lonely", "idle", "judge", "walk"};
      String name = names[which % names.length];
      int s = shelf(), n = length(s), p = one(), q = one(), cell = cell(), a = p, b = 0, c = 0;
      long got;
      switch (name) {
        case "comes": b = num(0, 2); got = x.comes(s, n, p, b); break;
        case "fell": got = x.fell(s, n); break;
        case "ponds": got = x.ponds(s, n, p); break;
        case "kinds":
          b = draws.below(2) == 0 && r.w.one(p) ? way(r.w, r.w.people.get(p), r.w.left, "0").end()[0] : cell;
          c = num(0, 1); got = x.kinds(s, n, p, b, c); break;
        case "who": a = r.w.one(p) && draws.below(2) == 0 ? r.w.people.get(p).cell : cell; got = x.who(s, n, a); break;
        case "crowd": a = num(0, 1); got = x.crowd(s, n, a); break;
        case "firstFall": got = x.firstFall(s, n); break;
        case "alike": got = x.alike(s, n, p); break;
        case "differ": b = q; got = x.differ(s, n, p, q); break;
        case "again": b = num(0, 20); got = x.again(s, n, p, b); break;
        case "ring": got = x.ring(s, n, p); break;
        case "lonely": got = x.lonely(s, n); break;
        case "idle": got = x.idle(s, n, p); break;
        case "judge": got = x.judge(s, n); break;
        default: got = x.walk(s, n, p);
      }
      return same(name + " " + s + " " + n + " " + a + " " + b + " " + c, got, r.tellingCalls(name, s, n, a, b, c));
    }

    // a row full of SIGNS
    boolean fill() {
      int s = draws.below(wild ? 8 : 4), n = draws.below(3) == 0 ? draws.below(41) : draws.below(9), sort = draws.below(3) == 0 ? draws.below(5) : 3;
      boolean ok = same("row " + s, x.row(s, sort, n), r.shelfCalls("row", s, sort, n, 0, 0, 0));
      int ons = 1 + draws.below(5);
      for (int i = 0; ok && i < n; i++) {
        int sign = draws.below(60) == 0 ? 4 : draws.below(6) < ons ? 0 : draws.below(4);
        ok = same("set " + s + " " + i + " " + sign, x.set(s, i, sign), r.shelfCalls("set", s, i, 0, 0, 0, sign));
      }
      return ok;
    }

    boolean readIsland() {
      String[] words = {"side", "pond", "dry", "person", "is", "left", "old", "doubt"};
      StringBuilder text = new StringBuilder();
      int statements = draws.below(7);
      for (int k = 0; k <= statements; k++) {
        if (k > 0) text.append(draws.below(50) == 0 ? ";;" : ";");
        String word = words[draws.below(8)];
        text.append(draws.below(60) == 0 ? word + "s" : word);
        int[] wants = {1, 1, 1, 4, 2, 1, 1, 1};
        int numbers = wants[java.util.Arrays.asList(words).indexOf(word)] + (draws.below(50) == 0 ? 1 : draws.below(50) == 0 ? -1 : 0);
        for (int i = 0; i < numbers; i++) {
          text.append(draws.below(25) == 0 ? "" : draws.below(10) == 0 ? "  " : " ");
          boolean isCell = word.equals("pond") || word.equals("dry") || word.equals("person") && i == 2;
          int most = word.equals("doubt") ? 12 : word.equals("side") ? 7 : word.equals("person") && i == 0 ? 5
              : word.equals("person") && i == 1 ? 9 : word.equals("person") ? 3 : word.equals("is") && i == 0 ? Math.max(0, r.w.people.size() - 1) : 1;
          int n = isCell ? 10 * draws.below(r.w.side) + draws.below(r.w.side) : word.equals("side") ? r.w.side + draws.below(2) * draws.below(2) : draws.below(most + 1);
          if (draws.below(40) == 0) n = draws.below(130);
          text.append(draws.below(20) == 0 ? "0" + n : "" + n);
        }
        if (draws.below(60) == 0) text.append((char) draws.below(256));
        if (draws.below(10) == 0) text.append(' ');
      }
      for (int i = 0; i < text.length(); i++) {
        if (!same("feed " + (int) text.charAt(i), x.feed(text.charAt(i)), r.feed(text.charAt(i)))) return false;
      }
      return same("island of " + text, x.island(), r.island());
    }

    boolean all() {
      boolean ok = true;
      for (int what = 0; ok && what <= 17; what++) ok = same("status " + what, x.status(what), r.status(what));
      for (int p = 0; ok && p < r.w.people.size(); p++) {
        for (int what = 0; ok && what < 6; what++) ok = same("personOf " + p + " " + what, x.personOf(p, what), r.worldCalls("personOf", p, what, 0, 0));
      }
      for (int cell : r.w.all()) ok = ok && same("isPond " + cell, x.isPond(cell), r.worldCalls("isPond", cell, 0, 0, 0));
      for (int s = 0; s < 8; s++) {
        ok = ok && same("holds " + s, x.holds(s), r.holds(s));
        for (int i = 0; i < 40; i++) ok = ok && same("element " + s + " " + i, x.element(s, i), r.element(s, i));
      }
      return ok;
    }
  }

  public static void main(String[] args) {
    int runs = args.length > 0 ? Integer.parseInt(args[0]) : 1500;
    Map<String, Integer> answered = new TreeMap<>();
    for (int seed = 1; seed <= runs; seed++) {
      Run run = new Run(seed);
      boolean ok = true;
      for (int people = 0; ok && people < 3; people++) ok = run.call(9);
      for (int ponds = run.draws.below(6); ok && ponds > 0; ponds--) ok = run.call(8);
      for (int i = 0; ok && i < 3; i++) ok = run.fill();
      for (int i = 0; ok && i < 260; i++) ok = run.call(run.draws.below(37 + 30));
      ok = ok && run.all();
      if (!ok) {
        System.out.println("run " + seed + " is not as due");
        System.exit(1);
      }
      for (String line : run.told) {
        String name = line.substring(0, line.indexOf(' '));
        boolean refused = line.matches(".* = -([2-6]|[2-9][0-9]|[12][0-9][0-9])");
        answered.merge(name + (refused ? " refused" : line.endsWith(" = -1") ? " none" : ""), 1, Integer::sum);
      }
    }
    if (args.length > 1) System.out.println(answered);
    System.out.println("all answers of " + runs + " runs are as due");
  }
}
