import java.util.ArrayList;
import java.util.Arrays;
import java.util.HashSet;
import java.util.List;
import java.util.Set;
import java.util.TreeSet;

/** The document in its plainest form, with the Java library: what TurnedBeam is compared with. */
final class Plain {
  private static final int LOW = -1000000000;
  private static final int BEYOND = 1;
  private static final int NONE = 2;
  private static final int STATE = 3;
  private static final int FULL = 4;
  private static final int KIND = 5;

  private static final class Square {
    int kind;
    int m;
    int slant;
    int time;
    int lit;

    Square copy() {
      Square s = new Square();
      s.kind = kind;
      s.m = m;
      s.slant = slant;
      s.time = time;
      s.lit = lit;
      return s;
    }

    boolean mirror() {
      return kind == 1 || kind == 4 || kind == 5;
    }

    boolean stops() {
      return kind == 3 || kind == 6;
    }

    boolean byHand() {
      return kind == 1 || kind == 5;
    }
  }

  private static final class Ray {
    int out = 100;
    int thrown;
    final List<Integer> way = new ArrayList<>();
  }

  private static final class All {
    int rows = 1;
    int columns = 1;
    Square[] squares = {new Square()};
    int takings;
    int day;
    int z = 1;
    String tape = "";
    PlainText[] texts = new PlainText[2];
    List<Integer> waits = new ArrayList<>();

    All copy() {
      All a = new All();
      a.rows = rows;
      a.columns = columns;
      a.squares = new Square[squares.length];
      for (int i = 0; i < squares.length; i++) {
        a.squares[i] = squares[i].copy();
      }
      a.takings = takings;
      a.day = day;
      a.z = z;
      a.tape = tape;
      a.texts = texts.clone();
      a.waits = new ArrayList<>(waits);
      return a;
    }

    int windows() {
      return 2 * (rows + columns);
    }

    /** Row, column, and the way in, of each window. */
    int[] entry(int window) {
      List<int[]> entries = new ArrayList<>();
      for (int c = 0; c < columns; c++) {
        entries.add(new int[] {0, c, 1, 0});
      }
      for (int r = 0; r < rows; r++) {
        entries.add(new int[] {r, columns - 1, 0, -1});
      }
      for (int c = 0; c < columns; c++) {
        entries.add(new int[] {rows - 1, c, -1, 0});
      }
      for (int r = 0; r < rows; r++) {
        entries.add(new int[] {r, 0, 0, 1});
      }
      return entries.get(window);
    }

    int windowOf(int r, int c, int dr, int dc) {
      for (int w = 0; w < windows(); w++) {
        if (Arrays.equals(entry(w), new int[] {r, c, -dr, -dc})) {
          return w;
        }
      }
      throw new IllegalStateException();
    }

    boolean inside(int r, int c) {
      return r >= 0 && c >= 0 && r < rows && c < columns;
    }

    Ray ray(int window) {
      Ray ray = new Ray();
      int[] e = entry(window);
      int r = e[0];
      int c = e[1];
      int dr = e[2];
      int dc = e[3];
      while (ray.way.size() < 5000) {
        Square s = squares[r * columns + c];
        ray.way.add(r * columns + c);
        s.lit = Math.min(s.lit + 1, 9999);
        if (s.stops()) {
          return ray;
        }
        if (s.mirror()) {
          int sign = s.slant == 0 ? -1 : 1;
          int was = dr;
          dr = sign * dc;
          dc = sign * was;
          ray.thrown++;
          if (s.kind == 1) {
            s.slant = 1 - s.slant;
          }
          if (s.kind == 5 && ++s.time == 2 + s.m % 3) {
            s.time = 0;
            s.slant = 1 - s.slant;
          }
        }
        if (!inside(r + dr, c + dc)) {
          ray.out = windowOf(r, c, dr, dc);
          return ray;
        }
        r += dr;
        c += dc;
      }
      return ray;
    }

    int undone(int window) {
      int[] e = entry(window);
      int r = e[0];
      int c = e[1];
      int dr = e[2];
      int dc = e[3];
      for (int steps = 1; steps <= 5000; steps++) {
        Square s = squares[r * columns + c];
        if (s.stops()) {
          return 100;
        }
        s.lit = Math.max(s.lit - 1, 0);
        if (s.kind == 1) {
          s.slant = 1 - s.slant;
        }
        if (s.kind == 5 && --s.time < 0) {
          s.time = 1 + s.m % 3;
          s.slant = 1 - s.slant;
        }
        if (s.mirror()) {
          int sign = s.slant == 0 ? -1 : 1;
          int was = dr;
          dr = sign * dc;
          dc = sign * was;
        }
        if (!inside(r + dr, c + dc)) {
          return windowOf(r, c, dr, dc);
        }
        r += dr;
        c += dc;
      }
      return 100;
    }

    String standing() {
      StringBuilder b = new StringBuilder();
      for (Square s : squares) {
        b.append(s.slant).append(s.time);
      }
      return b.toString();
    }

    int gives(int use, int a, int b, int c) {
      int v = texts[use] == null ? (use == 0 ? 5 + c : 0) : texts[use].value(a, b, c);
      return use == 0 ? Math.max(0, Math.min(99, v)) : Math.max(-99, Math.min(99, v));
    }

    int cost(int square) {
      return gives(0, square / columns, square % columns, squares[square].m);
    }

    void take(int amount) {
      takings = Math.max(-99999, Math.min(99999, takings + amount));
    }

    boolean hand(int square) {
      Square s = squares[square];
      if (!s.byHand()) {
        return false;
      }
      take(-cost(square));
      s.slant = 1 - s.slant;
      return true;
    }

    int let(int window) {
      Ray ray = ray(window);
      take(gives(1, window, ray.out, ray.thrown));
      return ray.out;
    }

    int draw() {
      z = z * 1103515245 + 12345;
      return z >>> 8;
    }
  }

  private All now = new All();
  private All kept;
  private int images;
  private final int[] told = new int[6];
  private final int[][] sheets = new int[4][];
  private final int[] bits = new int[4];
  private final List<Integer> trace = new ArrayList<>();

  private int error(int k) {
    told[k]++;
    return LOW - k;
  }

  private boolean noSquare(int s) {
    return s < 0 || s >= now.squares.length;
  }

  private boolean noWindow(int w) {
    return w < 0 || w >= now.windows();
  }

  private boolean noSheet(int s) {
    return s < 0 || s > 3;
  }

  int hall(int rows, int columns) {
    if (rows < 1 || rows > 5 || columns < 1 || columns > 5) {
      return error(BEYOND);
    }
    now.rows = rows;
    now.columns = columns;
    now.squares = new Square[rows * columns];
    for (int i = 0; i < now.squares.length; i++) {
      now.squares[i] = new Square();
    }
    return now.windows();
  }

  int square(int square, int km, int slant) {
    if (noSquare(square) || km < 0 || km > 69 || slant < 0 || slant > 1) {
      return error(BEYOND);
    }
    Square s = now.squares[square];
    int was = s.kind;
    s.kind = km / 10;
    s.m = km % 10;
    s.slant = slant;
    s.time = 0;
    return was;
  }

  int ofSquare(int square, int what) {
    if (noSquare(square) || what < 0 || what > 7) {
      return error(BEYOND);
    }
    Square s = now.squares[square];
    int hand = s.byHand() ? now.cost(square) : -1;
    int[] all = {s.kind, s.m, s.slant, s.time, s.lit, hand, s.mirror() ? 1 : 0, s.stops() ? 1 : 0};
    return all[what];
  }

  int as(int square, int kind) {
    if (noSquare(square) || kind < 0 || kind > 6) {
      return error(BEYOND);
    }
    String[] chains = {"0", "01", "02", "03", "014", "015", "026"};
    Square s = now.squares[square];
    return chains[s.kind].indexOf('0' + kind) >= 0 ? s.m : error(KIND);
  }

  int hand(int square) {
    if (noSquare(square)) {
      return error(BEYOND);
    }
    return now.hand(square) ? now.squares[square].slant : error(STATE);
  }

  int slants() {
    int sum = 0;
    for (int i = 0; i < now.squares.length; i++) {
      sum += now.squares[i].slant << i;
    }
    return sum;
  }

  int let(int window) {
    return noWindow(window) ? error(BEYOND) : now.let(window);
  }

  int out(int window, int what) {
    if (noWindow(window) || what < 0 || what > 3) {
      return error(BEYOND);
    }
    All then = now.copy();
    Ray ray = then.ray(window);
    int other = 0;
    for (int i = 0; i < now.squares.length; i++) {
      other += now.squares[i].slant != then.squares[i].slant ? 1 : 0;
    }
    return new int[] {ray.out, ray.way.size(), ray.thrown, other}[what];
  }

  int way(int window, int i) {
    if (noWindow(window) || i < 0) {
      return error(BEYOND);
    }
    List<Integer> way = now.copy().ray(window).way;
    return i < way.size() ? way.get(i) : error(NONE);
  }

  int undo(int window) {
    if (noWindow(window)) {
      return error(BEYOND);
    }
    All before = now.copy();
    int from = before.undone(window);
    if (from == 100) {
      return error(STATE);
    }
    now = before;
    return from;
  }

  int feed(long word, int n) {
    if (n < 1 || n > 8) {
      return error(BEYOND);
    }
    if (now.tape.length() + n > 50) {
      return error(FULL);
    }
    for (int i = 0; i < n; i++) {
      now.tape += (char) (word & 0xFF);
      word >>= 8;
    }
    return now.tape.length();
  }

  int text(int use) {
    if (use < 0 || use > 1) {
      return error(BEYOND);
    }
    String names = use == 0 ? "rcm" : "iot";
    String tape = now.tape;
    now.tape = "";
    PlainText text = PlainText.of(tape, names);
    if (text == null) {
      return -10 - PlainText.fault(tape, names);
    }
    now.texts[use] = text;
    return 1;
  }

  int law(int use, int a, int b, int c) {
    return use < 0 || use > 1 ? error(BEYOND) : now.gives(use, a, b, c);
  }

  int round(int window) {
    if (noWindow(window)) {
      return error(BEYOND);
    }
    All then = now.copy();
    for (int i = 1; i <= 400; i++) {
      then.ray(window);
      if (then.standing().equals(now.standing())) {
        return i;
      }
    }
    return error(NONE);
  }

  private static List<Integer> row(All from, String goal, int rays) {
    if (rays == 0) {
      return from.standing().equals(goal) ? new ArrayList<>() : null;
    }
    for (int w = 0; w < from.windows(); w++) {
      All then = from.copy();
      then.ray(w);
      List<Integer> rest = row(then, goal, rays - 1);
      if (rest != null) {
        rest.add(0, w);
        return rest;
      }
    }
    return null;
  }

  int back(int what) {
    if (what < -1 || what > 2) {
      return error(BEYOND);
    }
    if (kept == null || kept.rows != now.rows || kept.columns != now.columns) {
      return error(STATE);
    }
    for (int rays = 0; rays <= 3; rays++) {
      List<Integer> row = row(now, kept.standing(), rays);
      if (row != null) {
        return what == -1 ? rays : what < rays ? row.get(what) : error(NONE);
      }
    }
    return error(NONE);
  }

  int throne(int square, int window, int what) {
    if (noSquare(square) || noWindow(window) || what < 0 || what > 2) {
      return error(BEYOND);
    }
    int n = now.squares.length;
    int[] best = null;
    for (int i = -1; i < n; i++) {
      for (int j = i; j < n; j++) {
        int[] hands = i < 0 ? (j < 0 ? new int[0] : null) : i == j ? new int[] {i} : new int[] {i, j};
        if (hands == null) {
          continue;
        }
        All then = now.copy();
        boolean can = true;
        int cost = 0;
        for (int h : hands) {
          can &= then.squares[h].byHand();
          cost += then.cost(h);
          then.squares[h].slant ^= 1;
        }
        if (!can || !then.ray(window).way.contains(square)) {
          continue;
        }
        int[] found = {hands.length, i < 0 ? -1 : 100 * i + j, cost};
        boolean better = best == null || found[0] < best[0]
            || found[0] == best[0] && (found[2] < best[2] || found[2] == best[2] && found[1] < best[1]);
        best = better ? found : best;
      }
    }
    return best == null ? error(NONE) : best[what];
  }

  int had() {
    Set<String> seen = new HashSet<>();
    List<All> queue = new ArrayList<>();
    queue.add(now.copy());
    seen.add(now.standing());
    for (int i = 0; i < queue.size(); i++) {
      for (int w = 0; w < now.windows(); w++) {
        All then = queue.get(i).copy();
        then.ray(w);
        if (seen.add(then.standing())) {
          queue.add(then);
        }
        if (seen.size() > 200) {
          return error(FULL);
        }
      }
    }
    return seen.size();
  }

  private boolean noMask(int mask) {
    return mask < 0 || mask >= 1 << now.squares.length;
  }

  private List<All> supposed(int mask) {
    List<All> all = new ArrayList<>();
    all.add(now.copy());
    int left = 5;
    for (int i = 0; i < now.squares.length; i++) {
      if ((mask & 1 << i) != 0 && now.squares[i].mirror() && left-- > 0) {
        List<All> more = new ArrayList<>();
        for (All a : all) {
          All other = a.copy();
          other.squares[i].slant ^= 1;
          more.add(a);
          more.add(other);
        }
        all = more;
      }
    }
    return all;
  }

  long odds(int mask, int window, int out, int part) {
    if (noMask(mask) || noWindow(window) || noWindow(out) && out != 100 || part < 0 || part > 1) {
      return error(BEYOND);
    }
    int above = 0;
    int below = 0;
    for (All a : supposed(mask)) {
      below++;
      above += a.ray(window).out == out ? 1 : 0;
    }
    int d = below;
    while (above % d != 0 || below % d != 0) {
      d--;
    }
    return part == 0 ? above / d : below / d;
  }

  private boolean unreadable(int sheet) {
    int[] s = sheets[sheet];
    if (s == null) {
      return true;
    }
    for (int i = 0; i < s.length / 2; i++) {
      if (noWindow(s[2 * i]) || noWindow(s[2 * i + 1]) && s[2 * i + 1] != 100) {
        return true;
      }
    }
    return false;
  }

  private List<All> fitting(int mask, int[] letters) {
    List<All> fit = new ArrayList<>();
    for (All a : supposed(mask)) {
      boolean good = true;
      for (int i = 0; i < letters.length / 2 && good; i++) {
        good = a.ray(letters[2 * i]).out == letters[2 * i + 1];
      }
      if (good) {
        fit.add(a);
      }
    }
    return fit;
  }

  int fits(int mask, int sheet) {
    if (noMask(mask) || noSheet(sheet)) {
      return error(BEYOND);
    }
    return unreadable(sheet) ? error(NONE) : fitting(mask, sheets[sheet]).size();
  }

  int tells(int mask, int sheet, int what) {
    if (noMask(mask) || noSheet(sheet) || what < 0 || what > 1) {
      return error(BEYOND);
    }
    if (unreadable(sheet)) {
      return error(NONE);
    }
    List<All> fit = fitting(mask, sheets[sheet]);
    if (fit.isEmpty()) {
      return error(NONE);
    }
    int[] best = {-1, 0};
    for (int w = 0; w < now.windows(); w++) {
      Set<Integer> outs = new TreeSet<>();
      for (All a : fit) {
        outs.add(a.copy().ray(w).out);
      }
      if (outs.size() > best[1]) {
        best = new int[] {w, outs.size()};
      }
    }
    return best[what];
  }

  int longest(int what) {
    if (what < 0 || what > 1) {
      return error(BEYOND);
    }
    int[] best = {-1, 0};
    for (int w = 0; w < now.windows(); w++) {
      int steps = now.copy().ray(w).way.size();
      if (steps > best[1]) {
        best = new int[] {w, steps};
      }
    }
    return best[what];
  }

  int days(int n) {
    if (n < 1 || n > 200) {
      return error(BEYOND);
    }
    if (now.day + n > 9999) {
      return error(STATE);
    }
    for (int i = 0; i < n; i++) {
      int square = now.draw() % now.squares.length;
      int window = now.draw() % now.windows();
      now.hand(square);
      now.let(window);
      now.day++;
    }
    return now.takings;
  }

  int seed(int v) {
    int was = now.z;
    now.z = v;
    return was;
  }

  int voice(int square, int act, int x) {
    if (noSquare(square) || act < 0 || act > 3) {
      return error(BEYOND);
    }
    trace.clear();
    PlainVoice v = PlainVoice.of(now.squares[square].kind, square, now.squares[square].m, trace);
    return act == 0 ? v.casts(x) : act == 1 ? v.turns(x) : act == 2 ? v.lights(x) : v.tells(x);
  }

  int trace(int i) {
    return i < 0 || i >= Math.min(40, trace.size()) ? error(NONE) : trace.get(i);
  }

  int sheet(int sheet, int b, int n) {
    if (noSheet(sheet) || b != 0 && b != 8 && b != 16 && b != 32) {
      return error(BEYOND);
    }
    if (b != 0 && n < 0) {
      return error(STATE);
    }
    if (b != 0 && n > 40) {
      return error(BEYOND);
    }
    bits[sheet] = b;
    sheets[sheet] = b == 0 ? null : new int[n];
    return 1;
  }

  int put(int sheet, int i, int v) {
    if (noSheet(sheet)) {
      return error(BEYOND);
    }
    if (sheets[sheet] == null) {
      return error(NONE);
    }
    if (i < 0 || i >= sheets[sheet].length) {
      return error(BEYOND);
    }
    sheets[sheet][i] = bits[sheet] == 8 ? (byte) v : bits[sheet] == 16 ? (short) v : v;
    return 1;
  }

  int move(int sheet, int i, int other, int j, int n) {
    if (noSheet(sheet) || noSheet(other)) {
      return error(BEYOND);
    }
    if (sheets[sheet] == null || sheets[other] == null) {
      return error(NONE);
    }
    if (bits[sheet] != bits[other]) {
      return error(KIND);
    }
    if (n < 0 || i < 0 || j < 0 || (long) i + n > sheets[sheet].length || (long) j + n > sheets[other].length) {
      return error(BEYOND);
    }
    int[] were = sheets[sheet].clone();
    for (int k = 0; k < n; k++) {
      sheets[other][j + k] = were[i + k];
    }
    return n;
  }

  int lets(int sheet) {
    if (noSheet(sheet)) {
      return error(BEYOND);
    }
    if (sheets[sheet] == null) {
      return error(NONE);
    }
    int lets = 0;
    for (int w : sheets[sheet]) {
      if (noWindow(w)) {
        break;
      }
      now.let(w);
      lets++;
    }
    return lets;
  }

  int judge(int sheet) {
    if (noSheet(sheet)) {
      return error(BEYOND);
    }
    int[] s = sheets[sheet];
    if (s == null) {
      return error(NONE);
    }
    for (int i = 0; i < Math.max(s.length, now.squares.length); i++) {
      if (i >= s.length || i >= now.squares.length || s[i] != now.squares[i].slant) {
        return i;
      }
    }
    return -1;
  }

  int image() {
    kept = now.copy();
    return ++images;
  }

  int restore() {
    if (kept == null) {
      return error(NONE);
    }
    now = kept.copy();
    return now.day;
  }

  int tell(int v) {
    if (now.waits.size() == 20) {
      return error(FULL);
    }
    now.waits.add(v);
    return now.waits.size();
  }

  int check() {
    List<Integer> waits = now.waits;
    now.waits = new ArrayList<>();
    for (int i = 0; i < waits.size(); i++) {
      if (i >= now.windows() || now.copy().ray(i).out != waits.get(i)) {
        return 1 + i;
      }
    }
    return 0;
  }

  int count(int what) {
    if (what < 0 || what > 10) {
      return error(BEYOND);
    }
    int mirrors = 0;
    int lit = 0;
    for (Square s : now.squares) {
      mirrors += s.mirror() ? 1 : 0;
      lit += s.lit;
    }
    int bodies = Math.min(40, trace.size());
    int[] all = {now.rows, now.columns, now.windows(), mirrors, lit, now.takings, now.day,
        now.tape.length(), now.waits.size(), bodies, now.z};
    return all[what];
  }

  int told(int k) {
    return k < 1 || k > 5 ? error(BEYOND) : told[k];
  }
}
