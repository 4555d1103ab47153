/** Promises 15 to 22: what would be. */
public final class ForesightPromisesTest {
  private static final Due due = new Due();

  public static void main(String[] args) {
    round();
    roundEdges();
    back();
    backStates();
    throne();
    throneChoices();
    had();
    odds();
    fits();
    fitsNot();
    tells();
    longest();
    due.end();
  }

  private static TurnedBeam built(int rows, int columns, int[] kms, int[] slants) {
    TurnedBeam x = new TurnedBeam();
    x.hall(rows, columns);
    for (int i = 0; i < kms.length; i++) {
      x.square(i, kms[i], slants[i]);
    }
    return x;
  }

  private static void round() {
    due.part("promise 15");
    String[] halls = {".", "/", "s", "#", "l"};
    int[] rays = {1, 2, 1, 1, 4};
    for (int i = 0; i < halls.length; i++) {
      due.is("round(0) of " + halls[i], Due.hall(halls[i]).round(0), rays[i]);
    }
    for (int m = 0; m <= 9; m++) {
      TurnedBeam x = new TurnedBeam();
      x.square(0, 50 + m, 1);
      due.is("round(3) by slow " + m, x.round(3), 2 * (2 + m % 3));
      x.let(0);
      due.is("round(3) by slow " + m + " on its way", x.round(3), 2 * (2 + m % 3));
      due.is("TIME as before", x.ofSquare(0, 3), 1);
      due.is("LIT as before", x.ofSquare(0, 4), 1);
    }
    TurnedBeam x = Due.hall("/");
    due.is("round(4)", x.round(4), Due.BEYOND);
    due.is("round(-1)", x.round(-1), Due.BEYOND);
  }

  private static void roundEdges() {
    due.part("promise 15, 400");
    TurnedBeam x = built(3, 4, new int[] {10, 50, 10, 0, 0, 50, 10, 50, 50, 0, 51, 50},
        new int[] {1, 1, 1, 1, 1, 1, 1, 0, 0, 0, 0, 1});
    due.is("round(5)", x.round(5), 400);
    TurnedBeam y = built(3, 4, new int[] {40, 51, 10, 10, 50, 52, 40, 51, 40, 0, 10, 10},
        new int[] {1, 1, 1, 1, 0, 0, 1, 1, 1, 0, 0, 1});
    int slants = y.slants();
    due.is("round(9)", y.round(9), Due.NONE);
    due.is("slants() as before", y.slants(), slants);
  }

  private static void backIs(TurnedBeam x, String when, int rays, int... row) {
    due.is("back(-1) " + when, x.back(-1), rays);
    for (int i = 0; i < 3; i++) {
      due.is("back(" + i + ") " + when, x.back(i), i < row.length ? row[i] : Due.NONE);
    }
  }

  private static void back() {
    due.part("promise 16");
    TurnedBeam x = Due.hall("/#/#/");
    x.image();
    backIs(x, "at once", 0);
    x.let(4);
    backIs(x, "behind one", 1, 4);
    x.let(2);
    backIs(x, "behind two", 2, 2, 4);
    x.let(0);
    backIs(x, "behind three", 3, 0, 2, 4);
    due.is("slants() as before", x.slants(), 1 | 1 << 2 | 1 << 4);
    due.is("count(4) as before", x.count(4), 5);
    TurnedBeam slow = Due.hall("l#/");
    slow.image();
    slow.let(0);
    backIs(slow, "of a slow one", 3, 0, 0, 0);
    slow.let(2);
    backIs(slow, "by four", Due.NONE);
  }

  private static void backStates() {
    due.part("promise 16, no IMAGE");
    TurnedBeam x = Due.hall("/.");
    due.is("back(-1)", x.back(-1), Due.STATE);
    due.is("back(-2) ahead of STATE", x.back(-2), Due.BEYOND);
    due.is("back(3) ahead of STATE", x.back(3), Due.BEYOND);
    x.image();
    x.hall(2, 1);
    due.is("back(-1) in another hall", x.back(-1), Due.STATE);
    x.hall(1, 2);
    due.is("back(-1) in one as large", x.back(-1), 0);
    due.is("back(0) in one as large", x.back(0), Due.NONE);
    x.square(1, 0, 1);
    due.is("back(-1) with a slant on no mirror", x.back(-1), Due.NONE);
    due.is("told(2)", x.told(2), 2);
  }

  private static void throneIs(TurnedBeam x, int square, int window, int hands, int squares, int cost) {
    String call = "throne(" + square + ", " + window + ", ";
    due.is(call + "0)", x.throne(square, window, 0), hands);
    due.is(call + "1)", x.throne(square, window, 1), squares);
    due.is(call + "2)", x.throne(square, window, 2), cost);
  }

  private static void throne() {
    due.part("promise 17");
    TurnedBeam x = Due.hall("//", "..");
    throneIs(x, 0, 0, 0, -1, 0);
    throneIs(x, 1, 0, 1, 0, 5);
    throneIs(x, 3, 0, 2, 1, 10);
    due.is("slants() as before", x.slants(), 0);
    due.is("TAKINGS as before", x.count(5), 0);
    throneIs(x, 2, 0, Due.NONE, Due.NONE, Due.NONE);
    Due.text(x, 0, "r*9+c*50+m+1");
    throneIs(x, 3, 0, 2, 1, 52);
    x.square(1, 40, 0);
    throneIs(x, 3, 0, Due.NONE, Due.NONE, Due.NONE);
    x.square(1, 53, 0);
    throneIs(x, 3, 0, 2, 1, 55);
    due.is("throne(4, 0, 0)", x.throne(4, 0, 0), Due.BEYOND);
    due.is("throne(-1, 0, 0)", x.throne(-1, 0, 0), Due.BEYOND);
    due.is("throne(0, 8, 0)", x.throne(0, 8, 0), Due.BEYOND);
    due.is("throne(0, -1, 0)", x.throne(0, -1, 0), Due.BEYOND);
    due.is("throne(0, 0, 3)", x.throne(0, 0, 3), Due.BEYOND);
    due.is("throne(0, 0, -1)", x.throne(0, 0, -1), Due.BEYOND);
  }

  private static void throneChoices() {
    due.part("promise 17, of several");
    TurnedBeam one = Due.hall("\\/", "./", "S/");
    throneIs(one, 0, 8, 1, 101, 5);
    Due.text(one, 0, "9-r*2");
    throneIs(one, 0, 8, 1, 303, 7);
    Due.text(one, 0, "r");
    throneIs(one, 0, 8, 1, 101, 0);
    TurnedBeam two = Due.hall("//", "\\/", "sS");
    throneIs(two, 4, 4, 2, 103, 10);
    two.square(1, 11, 0);
    throneIs(two, 4, 4, 2, 203, 10);
    two.square(2, 12, 1);
    throneIs(two, 4, 4, 2, 103, 11);
    two.square(3, 13, 0);
    throneIs(two, 4, 4, 2, 103, 14);
    TurnedBeam dear = Due.hall("\\//", "//s");
    dear.square(4, 19, 0);
    throneIs(dear, 5, 2, 1, 404, 14);
  }

  private static void had() {
    due.part("promise 18");
    String[] halls = {".", "/", "l", "/#/", "s#l#/"};
    int[] standings = {1, 2, 4, 4, 8};
    for (int i = 0; i < halls.length; i++) {
      due.is("had() of " + halls[i], Due.hall(halls[i]).had(), standings[i]);
    }
    TurnedBeam x = built(3, 4, new int[] {30, 30, 10, 30, 40, 10, 10, 30, 30, 52, 40, 50},
        new int[] {1, 0, 1, 1, 0, 0, 1, 1, 0, 0, 0, 1});
    due.is("had() of 200", x.had(), 200);
    due.is("count(4) as before", x.count(4), 0);
    due.is("had() by window 0 alone", Due.hall("SS.", "#/#", ".#.").had(), 2);
    TurnedBeam y = built(3, 2, new int[] {51, 0, 51, 0, 51, 30}, new int[] {1, 1, 1, 0, 1, 1});
    due.is("had() of 216", y.had(), Due.FULL);
    due.is("told(4)", y.told(4), 1);
  }

  private static void oddsAre(TurnedBeam x, int mask, int window, int out, int above, int below) {
    String call = "odds(" + mask + ", " + window + ", " + out + ", ";
    due.is(call + "0)", x.odds(mask, window, out, 0), above);
    due.is(call + "1)", x.odds(mask, window, out, 1), below);
  }

  private static void odds() {
    due.part("promise 19");
    TurnedBeam x = Due.hall("sss", "sss");
    oddsAre(x, 0, 4, 7, 1, 1);
    oddsAre(x, 63, 4, 7, 1, 1);
    oddsAre(x, 32, 4, 7, 1, 2);
    oddsAre(x, 32, 4, 8, 0, 1);
    oddsAre(x, 63, 0, 8, 9, 16);
    TurnedBeam y = Due.hall("/#");
    oddsAre(y, 1, 0, 100, 1, 2);
    oddsAre(y, 2, 0, 100, 0, 1);
    oddsAre(y, 2, 1, 100, 1, 1);
    int[][] beyond = {{-1, 0, 0, 0}, {4, 0, 0, 0}, {0, 6, 0, 0}, {0, -1, 0, 0}, {0, 0, 6, 0}, {0, 0, -1, 0}, {0, 0, 99, 0},
        {0, 0, 101, 0}, {0, 0, 0, 2}, {0, 0, 0, -1}, {Integer.MAX_VALUE, 0, 0, 0}};
    for (int[] b : beyond) {
      due.is("odds(" + b[0] + ", " + b[1] + ", " + b[2] + ", " + b[3] + ")", y.odds(b[0], b[1], b[2], b[3]), Due.BEYOND);
    }
    TurnedBeam z = new TurnedBeam();
    z.hall(5, 5);
    oddsAre(z, (1 << 25) - 1, 0, 10, 1, 1);
    due.is("odds(1 << 25, ..)", z.odds(1 << 25, 0, 0, 0), Due.BEYOND);
    TurnedBeam slow = Due.hall("l");
    slow.let(0);
    oddsAre(slow, 1, 0, 3, 1, 2);
    due.is("TIME as before", slow.ofSquare(0, 3), 1);
  }

  private static void fits() {
    due.part("promise 20");
    TurnedBeam x = Due.hall("/");
    int[][] letters = {{}, {0, 3}, {0, 1}, {0, 2}, {0, 3, 0, 1}, {0, 3, 0, 3}, {0, 3, 77}, {1, 2, 1, 0, 1, 2}};
    int[] fit = {2, 1, 1, 0, 1, 0, 1, 1};
    for (int i = 0; i < letters.length; i++) {
      Due.sheet(x, 2, 32, letters[i]);
      due.is("fits(1, 2) of letters " + i, x.fits(1, 2), fit[i]);
    }
    due.is("slants() as before", x.slants(), 0);
    TurnedBeam stuck = Due.hall("s");
    Due.sheet(stuck, 0, 8, 0, 3, 0, 3);
    due.is("fits(1, 0) of a stuck one", stuck.fits(1, 0), 1);
    due.is("fits(0, 0) of a known one", stuck.fits(0, 0), 1);
    TurnedBeam six = Due.hall("sss", "lll");
    Due.sheet(six, 0, 8);
    due.is("fits(63, 0) of six", six.fits(63, 0), 32);
    due.is("fits(60, 0) of four", six.fits(60, 0), 16);
    TurnedBeam others = Due.hall("t.#x");
    Due.sheet(others, 0, 8);
    due.is("fits(15, 0) of no mirrors", others.fits(15, 0), 1);
    TurnedBeam slow = Due.hall("l");
    slow.let(0);
    Due.sheet(slow, 0, 8, 0, 3, 0, 1, 0, 1, 0, 3);
    due.is("fits(1, 0) of a slow one on its way", slow.fits(1, 0), 1);
  }

  private static void fitsNot() {
    due.part("promise 20, not read");
    TurnedBeam x = Due.hall("/#");
    due.is("fits(1, 0) of a missing one", x.fits(1, 0), Due.NONE);
    Due.sheet(x, 0, 8, 0, 100, 5, 5);
    due.is("fits(1, 0)", x.fits(1, 0), 0);
    int[][] unread = {{6, 0}, {0, 6}, {0, 99}, {0, 101}, {100, 0}, {0, 0, 6, 0}, {0, 0, 0, 255}, {0, 2, 0, 2, 0, 200, 1}};
    for (int i = 0; i < unread.length; i++) {
      Due.sheet(x, 1, 8, unread[i]);
      due.is("fits(1, 1) of letters " + i, x.fits(1, 1), Due.NONE);
      due.is("tells(1, 1, 0) of letters " + i, x.tells(1, 1, 0), Due.NONE);
    }
    due.is("fits(4, 1)", x.fits(4, 1), Due.BEYOND);
    due.is("fits(-1, 1)", x.fits(-1, 1), Due.BEYOND);
    due.is("fits(1, 4)", x.fits(1, 4), Due.BEYOND);
    due.is("fits(1, -1)", x.fits(1, -1), Due.BEYOND);
    due.is("tells(4, 1, 0)", x.tells(4, 1, 0), Due.BEYOND);
    due.is("tells(1, 4, 0)", x.tells(1, 4, 0), Due.BEYOND);
    due.is("tells(1, -1, 0)", x.tells(1, -1, 0), Due.BEYOND);
    due.is("tells(1, 3, 2)", x.tells(1, 3, 2), Due.BEYOND);
    due.is("tells(1, 3, -1)", x.tells(1, 3, -1), Due.BEYOND);
    due.is("tells(1, 3, 0)", x.tells(1, 3, 0), Due.NONE);
  }

  private static void tells() {
    due.part("promise 21");
    TurnedBeam x = Due.hall("/#");
    Due.sheet(x, 0, 16);
    due.is("tells(1, 0, 0)", x.tells(1, 0, 0), 0);
    due.is("tells(1, 0, 1), 100 is an OUT", x.tells(1, 0, 1), 2);
    Due.sheet(x, 0, 16, 0, 5);
    due.is("tells(1, 0, 0) of one", x.tells(1, 0, 0), 0);
    due.is("tells(1, 0, 1) of one", x.tells(1, 0, 1), 1);
    Due.sheet(x, 0, 16, 0, 4);
    due.is("tells(1, 0, 0) of none", x.tells(1, 0, 0), Due.NONE);
    TurnedBeam y = Due.hall("..s");
    Due.sheet(y, 0, 8);
    due.is("tells(4, 0, 0), the least window", y.tells(4, 0, 0), 2);
    due.is("tells(4, 0, 1)", y.tells(4, 0, 1), 2);
    TurnedBeam z = Due.hall(".#s", ".s.");
    Due.sheet(z, 0, 8);
    due.is("tells(20, 0, 0), the most outs", z.tells(20, 0, 0), 2);
    due.is("tells(20, 0, 1)", z.tells(20, 0, 1), 2);
    due.is("slants() as before", z.slants(), 0);
    TurnedBeam large = Due.hall(".....", ".....", "#....", "ss#..", "s#...");
    Due.sheet(large, 0, 8);
    due.is("tells(1 << 16, 0, 0), by OUTS 19 and 100", large.tells(1 << 16, 0, 0), 1);
    due.is("tells(1 << 16, 0, 1)", large.tells(1 << 16, 0, 1), 2);
  }

  private static void longest() {
    due.part("promise 22");
    TurnedBeam x = Due.hall("/.", "\\.");
    due.is("longest(0)", x.longest(0), 2);
    due.is("longest(1)", x.longest(1), 4);
    due.is("slants() as before", x.slants(), 4);
    x.hand(0);
    due.is("longest(1) then", x.longest(1), 3);
    due.is("longest(0) then", x.longest(0), 3);
    due.is("longest(2)", x.longest(2), Due.BEYOND);
    due.is("longest(-1)", x.longest(-1), Due.BEYOND);
    due.is("longest(0) of curtains", Due.hall("##").longest(0), 0);
    due.is("longest(1) of curtains", Due.hall("##").longest(1), 1);
  }
}
