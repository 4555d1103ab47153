/** Promises 8 to 11: rays, and rays undone. */
public final class RayPromisesTest {
  private static final Due due = new Due();
  /** A ray at window 13 would take 7303 steps here, if none were stopped. */
  private static final String LONG_KINDS = "5444545555454455451455414";
  private static final String LONG_NUMBERS = "2201220000102101200100021";
  private static final String LONG_SLANTS = "1010100101111000111100100";

  public static void main(String[] args) {
    windows();
    headings();
    mirrors();
    slowOnes();
    stops();
    bets();
    out();
    way();
    longWay();
    undo();
    undoSlow();
    undoNot();
    undoLong();
    due.end();
  }

  private static void windows() {
    due.part("promise 8, windows");
    TurnedBeam x = new TurnedBeam();
    x.hall(2, 3);
    int[] outs = {5, 6, 7, 8, 9, 0, 1, 2, 3, 4};
    for (int w = 0; w < outs.length; w++) {
      due.is("let(" + w + ")", x.let(w), outs[w]);
    }
    for (int i = 0; i < 6; i++) {
      due.is("ofSquare(" + i + ", 4)", x.ofSquare(i, 4), 4);
    }
    due.is("let(10)", x.let(10), Due.BEYOND);
    due.is("let(-1)", x.let(-1), Due.BEYOND);
    due.is("let(far)", x.let(Integer.MIN_VALUE), Due.BEYOND);
    due.is("count(4)", x.count(4), 24);
  }

  private static void headings() {
    due.part("promise 8, headings");
    int[][] outs = {{3, 2, 1, 0}, {1, 0, 3, 2}};
    for (int slant = 0; slant < 2; slant++) {
      TurnedBeam x = Due.hall(slant == 0 ? "s" : "S");
      for (int w = 0; w < 4; w++) {
        due.is("let(" + w + ") by slant " + slant, x.let(w), outs[slant][w]);
        due.is("slants()", x.slants(), slant);
      }
    }
    TurnedBeam x = Due.hall("t");
    due.is("let(3) by a throne", x.let(3), 1);
  }

  private static void mirrors() {
    due.part("promise 8, mirrors");
    TurnedBeam x = Due.hall("/.", "\\.");
    due.is("let(2)", x.let(2), 3);
    due.is("slants()", x.slants(), 1);
    due.is("let(2) again", x.let(2), 0);
    due.is("slants() again", x.slants(), 0);
    due.is("count(4)", x.count(4), 6);
    due.is("ofSquare(2, 4)", x.ofSquare(2, 4), 1);
  }

  private static void slowOnes() {
    due.part("promise 8, slow ones");
    for (int m = 0; m <= 9; m++) {
      TurnedBeam x = new TurnedBeam();
      x.square(0, 50 + m, 0);
      int period = 2 + m % 3;
      for (int i = 0; i < 3 * period; i++) {
        int slant = i / period % 2;
        due.is("let(0) by slow " + m, x.let(0), slant == 0 ? 3 : 1);
        due.is("TIME", x.ofSquare(0, 3), (i + 1) % period);
        due.is("SLANT", x.ofSquare(0, 2), (i + 1) / period % 2);
      }
    }
  }

  private static void stops() {
    due.part("promise 8, stops");
    TurnedBeam x = Due.hall("/#x");
    due.is("let(1)", x.let(1), 100);
    due.is("let(6)", x.let(6), 100);
    due.is("let(0)", x.let(0), 7);
    due.is("let(0) into the curtain", x.let(0), 100);
    due.is("slants()", x.slants(), 0);
    due.is("ofSquare(1, 4)", x.ofSquare(1, 4), 2);
    due.is("ofSquare(2, 4)", x.ofSquare(2, 4), 1);
  }

  private static void bets() {
    due.part("promise 8, bets");
    TurnedBeam x = Due.hall("/.", "\\.");
    Due.text(x, 1, "i*20+o*5+t");
    due.is("let(2)", x.let(2), 3);
    due.is("count(5)", x.count(5), 57);
    x.square(1, 30, 0);
    Due.text(x, 1, "o+t-i");
    due.is("let(1)", x.let(1), 100);
    due.is("count(5) behind a curtain", x.count(5), 57 + 99);
    Due.text(x, 1, "0-99");
    Due.sheet(x, 0, 8, new int[40]);
    for (int i = 0; i < 26; i++) {
      x.lets(0);
    }
    due.is("TAKINGS held below", x.count(5), -99999);
    x.hand(0);
    due.is("TAKINGS held below by a hand", x.count(5), -99999);
    Due.text(x, 1, "99");
    for (int i = 0; i < 52; i++) {
      x.lets(0);
    }
    due.is("TAKINGS held above", x.count(5), 99999);
    x.hand(0);
    due.is("TAKINGS from above", x.count(5), 99994);
  }

  private static void out() {
    due.part("promise 9");
    TurnedBeam x = Due.hall("/.", "\\.");
    int[] first = {3, 4, 2, 2};
    for (int what = 0; what < 4; what++) {
      due.is("out(2, " + what + ")", x.out(2, what), first[what]);
    }
    due.is("slants() as before", x.slants(), 4);
    due.is("count(4) as before", x.count(4), 0);
    due.is("out(8, 0)", x.out(8, 0), Due.BEYOND);
    due.is("out(-1, 0)", x.out(-1, 0), Due.BEYOND);
    due.is("out(0, 4)", x.out(0, 4), Due.BEYOND);
    due.is("out(0, -1)", x.out(0, -1), Due.BEYOND);
    TurnedBeam y = Due.hall("s#");
    y.square(0, 40, 1);
    int[] stopped = {100, 2, 1, 0};
    for (int what = 0; what < 4; what++) {
      due.is("out(0, " + what + ") into a curtain", y.out(0, what), stopped[what]);
    }
    TurnedBeam z = Due.hall("L");
    due.is("out(0, 3) of a slow one", z.out(0, 3), 0);
    z.let(0);
    due.is("out(0, 3) of a slow one then", z.out(0, 3), 1);
    due.is("TIME as before", z.ofSquare(0, 3), 1);
  }

  private static void way() {
    due.part("promise 10");
    TurnedBeam x = Due.hall("/.", "\\.");
    int[] way = {1, 0, 2, 3};
    for (int i = 0; i < way.length; i++) {
      due.is("way(2, " + i + ")", x.way(2, i), way[i]);
    }
    due.is("way(2, 4)", x.way(2, 4), Due.NONE);
    due.is("way(2, far)", x.way(2, Integer.MAX_VALUE), Due.NONE);
    due.is("way(2, -1)", x.way(2, -1), Due.BEYOND);
    due.is("way(8, 0)", x.way(8, 0), Due.BEYOND);
    due.is("way(-1, 9)", x.way(-1, 9), Due.BEYOND);
    due.is("slants() as before", x.slants(), 4);
    due.is("count(4) as before", x.count(4), 0);
  }

  private static TurnedBeam longHall(String kinds, String numbers, String slants) {
    TurnedBeam x = new TurnedBeam();
    x.hall(5, 5);
    for (int i = 0; i < 25; i++) {
      x.square(i, 10 * (kinds.charAt(i) - '0') + numbers.charAt(i) - '0', slants.charAt(i) - '0');
    }
    return x;
  }

  private static void longWay() {
    due.part("promises 8 to 10, 5000 steps");
    TurnedBeam x = longHall(LONG_KINDS, LONG_NUMBERS, LONG_SLANTS);
    due.is("out(13, 0)", x.out(13, 0), 100);
    due.is("out(13, 1)", x.out(13, 1), 5000);
    due.is("way(13, 4999) is a square", x.way(13, 4999) >= 0 ? 1 : 0, 1);
    due.is("way(13, 5000)", x.way(13, 5000), Due.NONE);
    due.is("longest(1)", x.longest(1), 5000);
    due.is("let(13)", x.let(13), 100);
    due.is("count(4)", x.count(4), 5000);
  }

  private static void undo() {
    due.part("promise 11");
    TurnedBeam x = Due.hall("/.", "\\.");
    Due.text(x, 1, "9");
    x.let(2);
    x.let(2);
    due.is("undo(0)", x.undo(0), 2);
    due.is("slants()", x.slants(), 1);
    due.is("undo(3)", x.undo(3), 2);
    due.is("slants() then", x.slants(), 4);
    due.is("count(4)", x.count(4), 0);
    due.is("TAKINGS stay", x.count(5), 18);
    due.is("undo(0) without a ray ahead", x.undo(0), 2);
    due.is("LIT is 0 at least", x.count(4), 0);
    due.is("slants() without a ray ahead", x.slants(), 5);
    due.is("undo(8)", x.undo(8), Due.BEYOND);
    due.is("undo(-1)", x.undo(-1), Due.BEYOND);
  }

  private static void undoSlow() {
    due.part("promise 11, slow ones");
    for (int m = 0; m <= 9; m++) {
      TurnedBeam x = new TurnedBeam();
      x.square(0, 50 + m, 0);
      due.is("undo(3)", x.undo(3), 2);
      due.is("SLANT", x.ofSquare(0, 2), 1);
      due.is("TIME", x.ofSquare(0, 3), 1 + m % 3);
      due.is("undo(0)", x.undo(0), 1);
      due.is("SLANT then", x.ofSquare(0, 2), 1);
      due.is("TIME then", x.ofSquare(0, 3), m % 3);
    }
    TurnedBeam y = Due.hall("s");
    due.is("undo(3) of a stuck one", y.undo(3), 0);
    due.is("SLANT of a stuck one", y.ofSquare(0, 2), 0);
  }

  private static void undoNot() {
    due.part("promise 11, not undone");
    TurnedBeam x = Due.hall("/#", ".x");
    x.let(7);
    x.let(0);
    due.is("slants()", x.slants(), 1);
    int lit = x.count(4);
    due.is("undo(2), a curtain at once", x.undo(2), Due.STATE);
    due.is("undo(3), a seat", x.undo(3), Due.STATE);
    due.is("undo(7), a seat behind a square", x.undo(7), Due.STATE);
    x.hand(0);
    due.is("undo(0), a curtain behind a mirror", x.undo(0), Due.STATE);
    due.is("slants() as before", x.slants(), 0);
    due.is("count(4) as before", x.count(4), lit);
  }

  /** Each mirror that turns by rays is turned back at once: with the other slants the way back is as long. */
  private static void undoLong() {
    due.part("promise 11, 5000 steps");
    StringBuilder turned = new StringBuilder();
    for (int i = 0; i < 25; i++) {
      char slant = LONG_SLANTS.charAt(i);
      turned.append(LONG_KINDS.charAt(i) == '4' ? slant : slant == '0' ? '1' : '0');
    }
    TurnedBeam x = longHall(LONG_KINDS, LONG_NUMBERS, turned.toString());
    int slants = x.slants();
    due.is("undo(13)", x.undo(13), Due.STATE);
    due.is("slants()", x.slants(), slants);
  }
}
