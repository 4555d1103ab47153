/** Each sentence of promises 15 to 22, and of the terms under 3, that names a boundary; refusals stand in RefusedCallsTest. */
public final class ForesightBoundariesTest {
  private static final Due due = new Due();

  public static void main(String[] args) {
    roundOfOne();
    roundOf400();
    roundOf401();
    roundAsksTime();
    roundThatNeverComes();
    backByNone();
    backByThree();
    backByFour();
    backFirstRow();
    backAsksTime();
    backOfTurnedHall();
    throneByNone();
    throneByTwo();
    throneByThree();
    throneLeastCost();
    throneLeastSquares();
    throneOfWhatStops();
    throneHandsThatCantBe();
    hadOfOne();
    hadOf200();
    oddsOfNone();
    oddsOfFive();
    oddsLowestTerms();
    oddsOfAnySlantNow();
    oddsOfStopped();
    oddsKeepTime();
    fitsLeftOver();
    fitsEmpty();
    fitsOfFortyNumbers();
    fitsReadsAllFirst();
    tellsLeastWindow();
    tellsBehindTheRays();
    tellsEachWindowAsIfAlone();
    longestLeastWindow();
    nothingChanges();
    due.end();
  }

  private static void roundOfOne() {
    due.part("promise 15: 1 RAY at least");
    for (String hall : new String[] {".", "s", "S", "t", "#", "x", ".....", "s.S"}) {
      TurnedBeam x = Due.hall(hall);
      due.is("round(0) of " + hall, x.round(0), 1);
      due.is("round(last) of " + hall, x.round(x.count(2) - 1), 1);
    }
  }

  /** Lets in that many RAYS at a window; none of them is a call of its own. */
  private static void letsIn(TurnedBeam x, int window, int rays) {
    for (int left = rays; left > 0; left -= 40) {
      int[] row = new int[Math.min(40, left)];
      java.util.Arrays.fill(row, window);
      Due.sheet(x, 0, 8, row);
      x.lets(0);
    }
  }

  private static void roundOf400() {
    due.part("promise 15: 400 RAYS");
    TurnedBeam x = Due.built(3, 4, "151005155055", "000000000010", "111111100001");
    due.is("round(5)", x.round(5), 400);
    int slants = x.slants();
    x.image();
    letsIn(x, 5, 400);
    due.is("slants() behind 400", x.slants(), slants);
    due.is("back(-1) behind 400", x.back(-1), 0);
  }

  private static void roundOf401() {
    due.part("promise 15: not by 400");
    TurnedBeam x = Due.built(4, 3, "114154455515", "022001101201", "010110111001");
    due.is("round(10)", x.round(10), Due.NONE);
    x.image();
    letsIn(x, 10, 400);
    due.is("back(-1) behind 400", x.back(-1), 1);
    x.let(10);
    due.is("back(-1) behind 401", x.back(-1), 0);
    due.is("round(10) then", x.round(10), Due.NONE);
  }

  private static void roundAsksTime() {
    due.part("promise 15: STANDING is SLANT and TIME");
    int[] rays = {4, 6, 8};
    for (int m = 0; m < 3; m++) {
      TurnedBeam x = new TurnedBeam();
      x.square(0, 50 + m, 0);
      for (int lit = 0; lit < 10; lit++) {
        due.is("round(0) of m " + m + " behind " + lit, x.round(0), rays[m]);
        x.let(2);
      }
    }
  }

  private static void roundThatNeverComes() {
    due.part("promise 15: NONE, a standing to which no RAY comes back");
    TurnedBeam x = Due.built(3, 3, "133513311", "000000000", "000000000");
    for (int w = 0; w < 12; w++) {
      TurnedBeam y = Due.built(3, 3, "133513311", "000000000", "000000000");
      y.image();
      int rays = 0;
      do {
        y.let(w);
        rays++;
      } while (y.back(-1) != 0 && rays < 100);
      due.is("round(" + w + ")", x.round(w), rays < 100 ? rays : Due.NONE);
    }
  }

  private static void backIs(TurnedBeam x, int rays, int... row) {
    due.is("back(-1)", x.back(-1), rays);
    for (int i = 0; i < 3; i++) {
      due.is("back(" + i + ")", x.back(i), i < row.length ? row[i] : Due.NONE);
    }
  }

  private static void backByNone() {
    due.part("promise 16: no RAY is needed");
    TurnedBeam x = new TurnedBeam();
    x.image();
    backIs(x, 0);
    x.let(0);
    backIs(x, 0);
    x.hall(1, 1);
    backIs(x, 0);
    x.square(0, 0, 1);
    backIs(x, Due.NONE);
    x.image();
    backIs(x, 0);
  }

  private static void backByThree() {
    due.part("promise 16: 3 RAYS at most");
    TurnedBeam x = Due.hall("l");
    x.image();
    x.let(0);
    backIs(x, 3, 0, 0, 0);
    x.let(0);
    backIs(x, 2, 0, 0);
    x.let(0);
    backIs(x, 1, 0);
  }

  private static void backByFour() {
    due.part("promise 16: not by 3");
    TurnedBeam x = new TurnedBeam();
    x.square(0, 51, 0);
    x.image();
    x.let(0);
    backIs(x, Due.NONE);
    x.let(0);
    backIs(x, Due.NONE);
    x.let(0);
    backIs(x, 3, 0, 0, 0);
    TurnedBeam large = new TurnedBeam();
    large.hall(5, 5);
    large.square(24, 52, 0);
    large.image();
    large.let(14);
    backIs(large, Due.NONE);
    large.square(24, 0, 1);
    backIs(large, Due.NONE);
  }

  private static void backFirstRow() {
    due.part("promise 16: of several the first row of WINDOWS");
    TurnedBeam x = Due.hall("#/#", "###", "/#/");
    x.image();
    x.hand(1);
    x.hand(8);
    // the mirror of square 1 is met by window 1, that of square 8 by windows 5 and 8
    backIs(x, 2, 1, 5);
    x.hand(6);
    backIs(x, 3, 1, 5, 6);
    TurnedBeam y = Due.hall("#/#");
    y.image();
    y.hand(1);
    backIs(y, 1, 1);
  }

  private static void backAsksTime() {
    due.part("promise 16: STANDING is SLANT and TIME");
    TurnedBeam x = Due.hall("l");
    x.let(0);
    x.image();
    x.square(0, 50, 0);
    backIs(x, 1, 0);
    x.hand(0);
    backIs(x, 3, 0, 0, 0);
    x.square(0, 0, 0);
    backIs(x, Due.NONE);
  }

  private static void backOfTurnedHall() {
    due.part("promise 16: as many ROWS and COLUMNS");
    int[][] sizes = {{2, 3}, {3, 2}, {1, 5}, {5, 1}, {2, 2}, {3, 3}};
    for (int[] size : sizes) {
      TurnedBeam x = new TurnedBeam();
      x.hall(2, 3);
      x.image();
      x.hall(size[0], size[1]);
      due.is("back(-1) of " + size[0] + " by " + size[1], x.back(-1), size[0] == 2 && size[1] == 3 ? 0 : Due.STATE);
    }
  }

  private static void throneIs(TurnedBeam x, int square, int window, int hands, int squares, int cost) {
    due.is("throne(" + square + ", " + window + ", 0)", x.throne(square, window, 0), hands);
    due.is("throne(" + square + ", " + window + ", 1)", x.throne(square, window, 1), squares);
    due.is("throne(" + square + ", " + window + ", 2)", x.throne(square, window, 2), cost);
  }

  private static void throneByNone() {
    due.part("promise 17: -1, none is needed");
    TurnedBeam x = Due.hall("/.", ".#");
    throneIs(x, 0, 0, 0, -1, 0);
    throneIs(x, 1, 1, 0, -1, 0);
    throneIs(x, 3, 1, 0, -1, 0);
    throneIs(x, 1, 0, 1, 0, 5);
    throneIs(x, 0, 0, 0, -1, 0);
  }

  private static void throneByTwo() {
    due.part("promise 17: 2 HANDS at most, one alone");
    TurnedBeam x = new TurnedBeam();
    x.hall(5, 5);
    x.square(20, 19, 1);
    x.square(24, 10, 0);
    throneIs(x, 24, 10, 1, 2020, 14);
    throneIs(x, 19, 10, 1, 2020, 14);
    x.square(24, 13, 1);
    throneIs(x, 24, 10, 1, 2020, 14);
    throneIs(x, 19, 10, 2, 2024, 22);
    throneIs(x, 23, 4, 1, 2424, 8);
    x.square(0, 10, 0);
    throneIs(x, 1, 0, 1, 0, 5);
  }

  private static void throneByThree() {
    due.part("promise 17: not by 2");
    TurnedBeam x = Due.hall("/./", "...", "../");
    throneIs(x, 8, 0, 2, 2, 10);
    throneIs(x, 7, 0, 2, 2, 10);
    x.square(2, 40, 0);
    throneIs(x, 8, 0, Due.NONE, Due.NONE, Due.NONE);
    x.square(2, 10, 0);
    x.square(8, 10, 1);
    throneIs(x, 7, 0, Due.NONE, Due.NONE, Due.NONE);
  }

  private static void throneLeastCost() {
    due.part("promise 17: of several those of the least COST together");
    TurnedBeam x = Due.hall("//", "\\/", "sS");
    throneIs(x, 4, 4, 2, 103, 10);
    x.square(1, 19, 0);
    throneIs(x, 4, 4, 2, 203, 10);
    Due.text(x, 0, "0");
    throneIs(x, 4, 4, 2, 103, 0);
    Due.text(x, 0, "99");
    throneIs(x, 4, 4, 2, 103, 198);
  }

  private static void throneLeastSquares() {
    due.part("promise 17: of equal costs the least SQUARES");
    TurnedBeam x = Due.hall("\\/", "./", "S/");
    throneIs(x, 0, 8, 1, 101, 5);
    Due.text(x, 0, "9-r");
    throneIs(x, 0, 8, 1, 303, 8);
    Due.text(x, 0, "7");
    throneIs(x, 0, 8, 1, 101, 7);
  }

  private static void throneOfWhatStops() {
    due.part("promise 17: a RAY comes into what stops it, not behind it");
    TurnedBeam x = Due.hall(".#.", ".x.");
    throneIs(x, 1, 8, 0, -1, 0);
    throneIs(x, 4, 9, 0, -1, 0);
    throneIs(x, 2, 8, Due.NONE, Due.NONE, Due.NONE);
    throneIs(x, 5, 9, Due.NONE, Due.NONE, Due.NONE);
  }

  private static void throneHandsThatCantBe() {
    due.part("promise 17: no HAND turns a STUCK one");
    TurnedBeam x = Due.hall("s.");
    throneIs(x, 1, 0, Due.NONE, Due.NONE, Due.NONE);
    x.square(0, 50, 0);
    throneIs(x, 1, 0, 1, 0, 5);
    x.square(0, 10, 0);
    throneIs(x, 1, 0, 1, 0, 5);
    x.square(0, 20, 0);
    throneIs(x, 1, 0, Due.NONE, Due.NONE, Due.NONE);
  }

  private static void hadOfOne() {
    due.part("promise 18: none, too");
    for (String hall : new String[] {".", "s", "#", "x", "t", ".....", "#/#", "###"}) {
      int mirrors = Due.hall(hall).count(3);
      due.is("had() of " + hall, Due.hall(hall).had(), hall.equals("s") || mirrors == 0 ? 1 : 2);
    }
    TurnedBeam again = Due.hall("/#/");
    due.is("had() of two mirrors", again.had(), 4);
    due.is("had() of two mirrors again", again.had(), 4);
    again.square(2, 0, 0);
    due.is("had() of one of them", again.had(), 2);
    TurnedBeam large = new TurnedBeam();
    large.hall(5, 5);
    large.square(24, 52, 0);
    due.is("had() of a SLOW one in 5 by 5", large.had(), 8);
    TurnedBeam hidden = Due.hall("###", "#/#", "###");
    due.is("had() of a mirror that no RAY meets", hidden.had(), 1);
  }

  private static void hadOf200() {
    due.part("promise 18: FULL, more than 200");
    int[] hads = {200, 200, 200};
    TurnedBeam[] halls = {
      Due.built(2, 5, "5444045554", "0102102001", "0101111110"),
      Due.built(4, 2, "54455454", "22100001", "01111100"),
      Due.built(2, 4, "45445455", "00012100", "00010001"),
    };
    for (int i = 0; i < hads.length; i++) {
      due.is("had() of hall " + i, halls[i].had(), hads[i]);
    }
    TurnedBeam one = Due.built(4, 4, "4340315345144143", "2212101111001210", "1110011010001000");
    due.is("had() of 201", one.had(), Due.FULL);
    due.is("had() of 201 again", one.had(), Due.FULL);
    one.hall(1, 1);
    due.is("had() behind FULL", one.had(), 1);
    due.is("had() of 216", Due.built(3, 2, "505053", "101011", "111011").had(), Due.FULL);
    due.is("had() of 192", Due.built(1, 5, "53535", "20011", "00000").had(), 192);
    due.is("had() of 256", Due.built(1, 5, "53515", "20020", "00000").had() == Due.FULL ? 1 : 0, 1);
  }

  private static void oddsAre(TurnedBeam x, int mask, int window, int out, int above, int below) {
    due.is("odds(" + mask + ", " + window + ", " + out + ", 0)", x.odds(mask, window, out, 0), above);
    due.is("odds(" + mask + ", " + window + ", " + out + ", 1)", x.odds(mask, window, out, 1), below);
  }

  private static void oddsOfNone() {
    due.part("promise 19: a mask of no UNKNOWN MIRRORS");
    TurnedBeam x = Due.hall("s.#t");
    for (int mask : new int[] {0, 2, 4, 8, 14}) {
      oddsAre(x, mask, 0, 9, 1, 1);
      oddsAre(x, mask, 0, 5, 0, 1);
    }
    oddsAre(x, 15, 0, 9, 1, 2);
    oddsAre(x, 1, 0, 9, 1, 2);
  }

  private static void oddsOfFive() {
    due.part("promise 19: the 5 with the least numbers");
    for (int known = 0; known < 6; known++) {
      TurnedBeam x = Due.hall("/#/#/", "#####", "/#/#/");
      int[] squares = {0, 2, 4, 10, 12, 14};
      int[] windows = {0, 2, 4, 8, 10, 12};
      int[] outs = {13, 100, 100, 100, 100, 7};
      int mask = 0;
      for (int i = 0; i < 6; i++) {
        mask |= i == known ? 0 : 1 << squares[i];
      }
      for (int i = 0; i < 6; i++) {
        boolean shutIn = i == 1 || i == 4;
        boolean certain = i == known || shutIn;
        oddsAre(x, mask, windows[i], outs[i], 1, certain ? 1 : 2);
      }
    }
    TurnedBeam x = Due.hall("/#/#/", "#####", "/#/#/");
    int all = (1 << 15) - 1;
    oddsAre(x, all, 0, 13, 1, 2);
    oddsAre(x, all, 12, 7, 1, 1);
    oddsAre(x, all - 1, 12, 7, 1, 2);
    oddsAre(x, all - 1, 0, 13, 1, 1);
  }

  private static void oddsLowestTerms() {
    due.part("promise 19: a fraction in lowest terms");
    TurnedBeam x = Due.built(2, 4, "44444444", "00000000", "00000000");
    for (int mask = 0; mask < 256; mask += 5) {
      for (int w = 0; w < 12; w++) {
        long sum = 0;
        for (int out = 0; out <= 12; out++) {
          long above = x.odds(mask, w, out == 12 ? 100 : out, 0);
          long below = x.odds(mask, w, out == 12 ? 100 : out, 1);
          sum += above * (32 / below);
          due.is("lowest terms", below == 1 || above % 2 == 1 ? 1 : 0, 1);
          due.is("nought is 0 by 1", above == 0 && below != 1 ? 1 : 0, 0);
        }
        due.is("all odds together, of mask " + mask + ", window " + w, sum, 32);
      }
      x = Due.built(2, 4, "44444444", "00000000", "01101001");
    }
  }

  private static void oddsOfAnySlantNow() {
    due.part("promise 19: each has one SLANT or the other one, whatever it has now");
    for (String hall : new String[] {"ss", "sS", "Ss", "SS"}) {
      TurnedBeam x = Due.hall(hall);
      boolean first = hall.charAt(0) == 'S';
      oddsAre(x, 3, 0, 5, 1, 2);
      oddsAre(x, 3, 0, 1, 1, 4);
      oddsAre(x, 3, 0, 4, 1, 4);
      oddsAre(x, 1, 0, 5, 1, 2);
      oddsAre(x, 2, 0, 1, first ? 1 : 0, first ? 2 : 1);
      oddsAre(x, 2, 0, 5, first ? 0 : 1, 1);
    }
  }

  private static void oddsOfStopped() {
    due.part("promise 19: OUT 100");
    TurnedBeam x = Due.hall("/#");
    oddsAre(x, 1, 0, 100, 1, 2);
    oddsAre(x, 0, 0, 100, 0, 1);
    oddsAre(x, 3, 1, 100, 1, 1);
  }

  private static void oddsKeepTime() {
    due.part("promise 19: all else being as it is");
    TurnedBeam x = Due.hall("l");
    oddsAre(x, 1, 0, 3, 1, 2);
    x.let(0);
    Due.sheet(x, 0, 8, 0, 3, 0, 1);
    due.is("fits(1, 0), TIME 1", x.fits(1, 0), 1);
    Due.sheet(x, 0, 8, 0, 3, 0, 3);
    due.is("fits(1, 0), not TIME 0", x.fits(1, 0), 0);
    due.is("TIME", x.ofSquare(0, 3), 1);
  }

  private static void fitsLeftOver() {
    due.part("terms: a number that is left over doesn't matter");
    TurnedBeam x = Due.hall("/");
    for (int over : new int[] {0, 3, 4, 100, 255, -1, Integer.MIN_VALUE}) {
      Due.sheet(x, 0, 32, over);
      due.is("fits(1, 0) of " + over + " alone", x.fits(1, 0), 2);
      due.is("tells(1, 0, 1) of " + over + " alone", x.tells(1, 0, 1), 2);
      Due.sheet(x, 0, 32, 0, 3, over);
      due.is("fits(1, 0) behind a letter", x.fits(1, 0), 1);
      Due.sheet(x, 0, 32, 0, over, 0);
      boolean isOut = over == 0 || over == 3 || over == 100;
      due.is("fits(1, 0) of it as an OUT", x.fits(1, 0) >= 0 ? 1 : 0, isOut ? 1 : 0);
    }
  }

  private static void fitsEmpty() {
    due.part("promise 20: an empty SHEET tells nothing");
    TurnedBeam x = Due.hall("/l/", "lS.");
    Due.sheet(x, 0, 8);
    int[] masks = {0, 1, 2, 3, 7, 15, 31, 32, 63};
    int[] fit = {1, 2, 2, 4, 8, 16, 32, 1, 32};
    for (int i = 0; i < masks.length; i++) {
      due.is("fits(" + masks[i] + ", 0)", x.fits(masks[i], 0), fit[i]);
    }
  }

  private static void fitsOfFortyNumbers() {
    due.part("promise 20: 20 LETTERS");
    TurnedBeam x = Due.hall("/");
    int[] letters = new int[40];
    for (int i = 0; i < 20; i++) {
      letters[2 * i + 1] = i % 2 == 0 ? 3 : 1;
    }
    Due.sheet(x, 0, 8, letters);
    due.is("fits(1, 0)", x.fits(1, 0), 1);
    x.put(0, 39, 3);
    due.is("fits(1, 0), the last doesn't", x.fits(1, 0), 0);
    x.put(0, 39, 4);
    due.is("fits(1, 0), the last is no OUT", x.fits(1, 0), Due.NONE);
    x.put(0, 39, 1);
    x.put(0, 38, 4);
    due.is("fits(1, 0), the last is no WINDOW", x.fits(1, 0), Due.NONE);
  }

  private static void fitsReadsAllFirst() {
    due.part("promise 20: NONE, though nothing would fit by then");
    TurnedBeam x = Due.hall("/");
    Due.sheet(x, 0, 8, 0, 2);
    due.is("fits(1, 0)", x.fits(1, 0), 0);
    Due.sheet(x, 0, 8, 0, 2, 0, 4);
    due.is("fits(1, 0), no OUT", x.fits(1, 0), Due.NONE);
    Due.sheet(x, 0, 8, 0, 2, 100, 0);
    due.is("fits(1, 0), 100 is no WINDOW", x.fits(1, 0), Due.NONE);
    due.is("tells(1, 0, 0)", x.tells(1, 0, 0), Due.NONE);
  }

  private static void tellsLeastWindow() {
    due.part("promise 21: of several the least");
    TurnedBeam x = new TurnedBeam();
    Due.sheet(x, 0, 8);
    due.is("tells(0, 0, 0)", x.tells(0, 0, 0), 0);
    due.is("tells(0, 0, 1)", x.tells(0, 0, 1), 1);
    x.hall(5, 5);
    x.square(24, 40, 0);
    due.is("tells(1 << 24, 0, 0)", x.tells(1 << 24, 0, 0), 4);
    due.is("tells(1 << 24, 0, 1)", x.tells(1 << 24, 0, 1), 2);
    x.square(4, 30, 0);
    due.is("tells(1 << 24, 0, 0), window 4 is shut", x.tells(1 << 24, 0, 0), 9);
    x.square(23, 30, 0);
    due.is("tells(1 << 24, 0, 0), OUTS 9, 14 and 100", x.tells(1 << 24, 0, 0), 9);
  }

  private static void tellsBehindTheRays() {
    due.part("promise 21: behind these RAYS");
    TurnedBeam x = Due.hall("/.#");
    // mirror 0 turns by each ray: behind one it sends window 0 the other way
    Due.sheet(x, 0, 8, 0, 7);
    due.is("fits(1, 0)", x.fits(1, 0), 1);
    due.is("tells(1, 0, 1)", x.tells(1, 0, 1), 1);
    Due.sheet(x, 0, 8);
    due.is("tells(1, 0, 1) of nothing", x.tells(1, 0, 1), 2);
    Due.sheet(x, 0, 8, 2, 100);
    due.is("fits(1, 0) of both", x.fits(1, 0), 2);
    due.is("tells(1, 0, 0) of both", x.tells(1, 0, 0), 0);
    due.is("tells(1, 0, 1) of both", x.tells(1, 0, 1), 2);
  }

  private static void tellsEachWindowAsIfAlone() {
    due.part("promise 21: each WINDOW as if its RAY were the only one behind these");
    TurnedBeam x = Due.built(2, 2, "1444", "0000", "0000");
    TurnedBeam y = Due.built(2, 2, "4144", "0000", "0010");
    Due.sheet(x, 0, 8);
    Due.sheet(y, 0, 8);
    for (int mask = 0; mask < 16; mask++) {
      int most = 0;
      int window = -1;
      int mostOfY = 0;
      int windowOfY = -1;
      for (int w = 0; w < 8; w++) {
        int outs = 0;
        int outsOfY = 0;
        for (int out = 0; out < 8; out++) {
          outs += x.odds(mask, w, out, 0) > 0 ? 1 : 0;
          outsOfY += y.odds(mask, w, out, 0) > 0 ? 1 : 0;
        }
        window = outs > most ? w : window;
        most = Math.max(most, outs);
        windowOfY = outsOfY > mostOfY ? w : windowOfY;
        mostOfY = Math.max(mostOfY, outsOfY);
      }
      due.is("tells(" + mask + ", 0, 0)", x.tells(mask, 0, 0), window);
      due.is("tells(" + mask + ", 0, 1)", x.tells(mask, 0, 1), most);
      due.is("tells(" + mask + ", 0, 0) of another", y.tells(mask, 0, 0), windowOfY);
      due.is("tells(" + mask + ", 0, 1) of another", y.tells(mask, 0, 1), mostOfY);
    }
  }

  private static void longestLeastWindow() {
    due.part("promise 22: of several the least");
    TurnedBeam x = new TurnedBeam();
    due.is("longest(0)", x.longest(0), 0);
    due.is("longest(1)", x.longest(1), 1);
    x.hall(2, 3);
    due.is("longest(0) of 2 by 3", x.longest(0), 3);
    due.is("longest(1) of 2 by 3", x.longest(1), 3);
    x.hall(3, 2);
    due.is("longest(0) of 3 by 2", x.longest(0), 0);
    x.square(0, 30, 0);
    due.is("longest(0), window 0 is shut", x.longest(0), 1);
    x.square(5, 30, 0);
    due.is("longest(0), window 6 is open alone", x.longest(0), 1);
    due.is("longest(1), to the CURTAIN", x.longest(1), 3);
    x.hall(1, 5);
    x.square(0, 30, 0);
    due.is("longest(0), the west side is shut", x.longest(0), 5);
  }

  private static void nothingChanges() {
    due.part("promises 15 to 22: what would be changes nothing");
    TurnedBeam x = Due.built(3, 3, "154015510", "012345678", "010110011");
    TurnedBeam twin = Due.built(3, 3, "154015510", "012345678", "010110011");
    x.image();
    x.let(3);
    twin.let(3);
    Due.sheet(x, 0, 8, 0, x.out(0, 0));
    for (int w = 0; w < 12; w++) {
      x.round(w);
      x.throne(w % 9, w, w % 3);
      x.odds(511, w, w, 0);
      x.way(w, 3);
      x.out(w, w % 4);
    }
    x.back(-1);
    x.back(2);
    x.had();
    x.fits(511, 0);
    x.tells(511, 0, 0);
    x.longest(0);
    due.is("slants()", x.slants(), twin.slants());
    due.is("count(4)", x.count(4), twin.count(4));
    due.is("count(5)", x.count(5), twin.count(5));
    for (int i = 0; i < 9; i++) {
      due.is("ofSquare(" + i + ", 3)", x.ofSquare(i, 3), twin.ofSquare(i, 3));
      due.is("ofSquare(" + i + ", 4)", x.ofSquare(i, 4), twin.ofSquare(i, 4));
    }
  }
}
