/** Promises 1 to 7: a new object, the hall, hands. */
public final class HallPromisesTest {
  private static final Due due = new Due();

  public static void main(String[] args) {
    newObject();
    hall();
    hallKeepsTheRest();
    square();
    squareKeepsLit();
    ofSquare();
    costs();
    as();
    hand();
    slants();
    due.end();
  }

  private static void newObject() {
    due.part("promise 1");
    TurnedBeam x = new TurnedBeam();
    int[] counts = {1, 1, 4, 0, 0, 0, 0, 0, 0, 0, 1};
    for (int i = 0; i < counts.length; i++) {
      due.is("count(" + i + ")", x.count(i), counts[i]);
    }
    int[] of = {0, 0, 0, 0, 0, -1, 0, 0};
    for (int i = 0; i < of.length; i++) {
      due.is("ofSquare(0, " + i + ")", x.ofSquare(0, i), of[i]);
    }
    for (int k = 1; k <= 5; k++) {
      due.is("told(" + k + ")", x.told(k), 0);
    }
    due.is("slants()", x.slants(), 0);
    due.is("check()", x.check(), 0);
    due.is("restore()", x.restore(), Due.NONE);
    due.is("back(-1)", x.back(-1), Due.STATE);
    due.is("trace(0)", x.trace(0), Due.NONE);
    for (int i = 0; i < 4; i++) {
      due.is("lets(" + i + ")", x.lets(i), Due.NONE);
    }
    due.is("law(0, 0, 0, 2)", x.law(0, 0, 0, 2), 7);
    due.is("law(1, 9, 9, 9)", x.law(1, 9, 9, 9), 0);
    due.is("ofSquare(1, 0)", x.ofSquare(1, 0), Due.BEYOND);
  }

  private static void hall() {
    due.part("promise 2");
    TurnedBeam x = new TurnedBeam();
    for (int r = 1; r <= 5; r++) {
      for (int c = 1; c <= 5; c++) {
        due.is("hall(" + r + ", " + c + ")", x.hall(r, c), 2 * (r + c));
        due.is("count(0)", x.count(0), r);
        due.is("count(1)", x.count(1), c);
        due.is("the last square", x.ofSquare(r * c - 1, 0), 0);
        due.is("a square too many", x.ofSquare(r * c, 0), Due.BEYOND);
      }
    }
    int[][] beyond = {{0, 1}, {1, 0}, {6, 1}, {1, 6}, {-1, 3}, {3, -1}, {Integer.MAX_VALUE, 2}, {2, Integer.MIN_VALUE}};
    for (int[] b : beyond) {
      due.is("hall(" + b[0] + ", " + b[1] + ")", x.hall(b[0], b[1]), Due.BEYOND);
    }
    due.is("count(2) behind BEYOND", x.count(2), 20);
  }

  private static void hallKeepsTheRest() {
    due.part("promise 2, what stays");
    TurnedBeam x = Due.hall("/l");
    Due.text(x, 1, "7");
    x.let(0);
    x.let(1);
    x.days(1);
    x.tell(3);
    Due.feed(x, "1+");
    Due.sheet(x, 1, 8, 0);
    x.voice(0, 0, 0);
    int takings = x.count(5);
    int z = x.count(10);
    due.is("hall(1, 2)", x.hall(1, 2), 6);
    for (int i = 0; i < 2; i++) {
      for (int what : new int[] {0, 1, 2, 3, 4}) {
        due.is("ofSquare(" + i + ", " + what + ")", x.ofSquare(i, what), 0);
      }
    }
    due.is("count(5)", x.count(5), takings);
    due.is("count(6)", x.count(6), 1);
    due.is("count(7)", x.count(7), 2);
    due.is("count(8)", x.count(8), 1);
    due.is("count(9)", x.count(9), 1);
    due.is("count(10)", x.count(10), z);
    due.is("lets(1)", x.lets(1), 1);
    due.is("law(1, 0, 0, 0)", x.law(1, 0, 0, 0), 7);
  }

  private static void square() {
    due.part("promise 3");
    TurnedBeam x = new TurnedBeam();
    x.hall(2, 2);
    int before = 0;
    for (int kind = 0; kind <= 6; kind++) {
      for (int m = 0; m <= 9; m += 3) {
        due.is("square(3, ..)", x.square(3, 10 * kind + m, m % 2), before);
        due.is("ofSquare(3, 0)", x.ofSquare(3, 0), kind);
        due.is("ofSquare(3, 1)", x.ofSquare(3, 1), m);
        due.is("ofSquare(3, 2)", x.ofSquare(3, 2), m % 2);
        before = kind;
      }
    }
    int[][] beyond = {{-1, 0, 0}, {4, 0, 0}, {0, -1, 0}, {0, 70, 0}, {0, 0, -1}, {0, 0, 2},
        {Integer.MIN_VALUE, 10, 0}, {0, Integer.MAX_VALUE, 0}};
    for (int[] b : beyond) {
      due.is("square(" + b[0] + ", " + b[1] + ", " + b[2] + ")", x.square(b[0], b[1], b[2]), Due.BEYOND);
    }
    due.is("square(3, 69, 0)", x.square(3, 69, 0), 6);
    due.is("slants()", x.slants(), 0);
  }

  private static void squareKeepsLit() {
    due.part("promise 3, LIT and TIME");
    TurnedBeam x = Due.hall("L");
    x.let(0);
    due.is("ofSquare(0, 3)", x.ofSquare(0, 3), 1);
    due.is("ofSquare(0, 4)", x.ofSquare(0, 4), 1);
    due.is("square(0, 52, 1)", x.square(0, 52, 1), 5);
    due.is("ofSquare(0, 3) then", x.ofSquare(0, 3), 0);
    due.is("ofSquare(0, 4) then", x.ofSquare(0, 4), 1);
  }

  private static void ofSquare() {
    due.part("promise 4");
    TurnedBeam x = new TurnedBeam();
    int[] hands = {-1, 9, -1, -1, -1, 9, -1};
    int[] throwsRays = {0, 1, 0, 0, 1, 1, 0};
    int[] stops = {0, 0, 0, 1, 0, 0, 1};
    for (int kind = 0; kind <= 6; kind++) {
      x.square(0, 10 * kind + 4, 0);
      due.is("ofSquare(0, 5) of " + kind, x.ofSquare(0, 5), hands[kind]);
      due.is("ofSquare(0, 6) of " + kind, x.ofSquare(0, 6), throwsRays[kind]);
      due.is("ofSquare(0, 7) of " + kind, x.ofSquare(0, 7), stops[kind]);
    }
    int[][] beyond = {{-1, 0}, {1, 0}, {0, -1}, {0, 8}, {Integer.MAX_VALUE, 0}, {0, Integer.MIN_VALUE}};
    for (int[] b : beyond) {
      due.is("ofSquare(" + b[0] + ", " + b[1] + ")", x.ofSquare(b[0], b[1]), Due.BEYOND);
    }
  }

  private static void costs() {
    due.part("promise 4, what a hand costs");
    TurnedBeam x = new TurnedBeam();
    x.hall(3, 4);
    x.square(11, 17, 0);
    x.square(6, 53, 0);
    Due.text(x, 0, "r*20+c*10+m");
    due.is("ofSquare(11, 5)", x.ofSquare(11, 5), 77);
    due.is("ofSquare(6, 5)", x.ofSquare(6, 5), 43);
    Due.text(x, 0, "0-r");
    due.is("ofSquare(11, 5) held", x.ofSquare(11, 5), 0);
    Due.text(x, 0, "m*99");
    due.is("ofSquare(11, 5) held above", x.ofSquare(11, 5), 99);
  }

  private static void as() {
    due.part("promise 5");
    String[] chains = {"0", "01", "02", "03", "014", "015", "026"};
    TurnedBeam x = new TurnedBeam();
    for (int kind = 0; kind <= 6; kind++) {
      x.square(0, 10 * kind + 8, 0);
      for (int as = 0; as <= 6; as++) {
        long want = chains[kind].indexOf('0' + as) >= 0 ? 8 : Due.KIND;
        due.is("as(0, " + as + ") of " + kind, x.as(0, as), want);
      }
    }
    due.is("as(1, 0)", x.as(1, 0), Due.BEYOND);
    due.is("as(-1, 0)", x.as(-1, 0), Due.BEYOND);
    due.is("as(0, 7)", x.as(0, 7), Due.BEYOND);
    due.is("as(0, -1)", x.as(0, -1), Due.BEYOND);
  }

  private static void hand() {
    due.part("promise 6");
    TurnedBeam x = new TurnedBeam();
    x.hall(1, 2);
    int[] can = {0, 1, 0, 0, 0, 1, 0};
    int takings = 0;
    for (int kind = 0; kind <= 6; kind++) {
      x.square(1, 10 * kind + 2, 1);
      due.is("hand(1) of " + kind, x.hand(1), can[kind] == 1 ? 0 : Due.STATE);
      takings -= 7 * can[kind];
      due.is("count(5)", x.count(5), takings);
      due.is("hand(1) again", x.hand(1), can[kind] == 1 ? 1 : Due.STATE);
      takings -= 7 * can[kind];
    }
    due.is("hand(2)", x.hand(2), Due.BEYOND);
    due.is("hand(-1)", x.hand(-1), Due.BEYOND);
    due.is("told(3)", x.told(3), 10);
    x.square(0, 50, 0);
    x.let(0);
    x.hand(0);
    due.is("TIME stays", x.ofSquare(0, 3), 1);
    due.is("LIT stays", x.ofSquare(0, 4), 1);
  }

  private static void slants() {
    due.part("promise 7");
    TurnedBeam x = new TurnedBeam();
    x.hall(5, 5);
    x.square(0, 0, 1);
    x.square(7, 15, 1);
    x.square(24, 30, 1);
    due.is("slants()", x.slants(), 1 | 1 << 7 | 1 << 24);
    x.hand(7);
    due.is("slants() behind a hand", x.slants(), 1 | 1 << 24);
  }
}
