/** Each sentence of promises 1 to 11, and of the terms under 1 and 3, that names a boundary; refusals stand in RefusedCallsTest. */
public final class HallBoundariesTest {
  private static final Due due = new Due();

  public static void main(String[] args) {
    smallestAndLargest();
    allWindowsOfAllHalls();
    hallAgain();
    firstAndLastSquare();
    leastAndMostKindAndNumber();
    squareTakesTimeAway();
    noMoreLitIsCounted();
    litOfAllTogetherGoesOn();
    litIsZeroAtLeast();
    timeGoesRound();
    stoppedAtOnce();
    fiveThousandSteps();
    fiveThousandAndOneSteps();
    fiveThousandStepsBack();
    fiveThousandAndOneStepsBack();
    takingsAtTheTop();
    takingsAtTheBottom();
    takingsAreHeldRayByRay();
    takingsAreHeldBetweenHandAndRay();
    handAtTheBottom();
    wayIsAsLongAsSteps();
    undoTurnsSlowOnesBack();
    undoKeepsTakings();
    costOfNoHand();
    costsByRowAndColumn();
    slantsWithoutMirrors();
    due.end();
  }

  private static void smallestAndLargest() {
    due.part("promise 2: ROWS and COLUMNS (1 to 5)");
    TurnedBeam x = new TurnedBeam();
    due.is("hall(5, 5)", x.hall(5, 5), 20);
    due.is("hall(1, 5)", x.hall(1, 5), 12);
    due.is("hall(5, 1)", x.hall(5, 1), 12);
    due.is("hall(1, 1)", x.hall(1, 1), 4);
  }

  private static void allWindowsOfAllHalls() {
    due.part("terms: WINDOWS of the north, east, south, west side");
    for (int rows = 1; rows <= 5; rows++) {
      for (int columns = 1; columns <= 5; columns++) {
        TurnedBeam x = new TurnedBeam();
        int half = x.hall(rows, columns) / 2;
        for (int i = 0; i < 2 * half; i++) {
          int steps = i % half < columns ? rows : columns;
          due.is("let(" + i + ") in " + rows + " by " + columns, x.let(i), (i + half) % (2 * half));
          due.is("out(" + i + ", 1)", x.out(i, 1), steps);
        }
        due.is("let(" + 2 * half + ")", x.let(2 * half), Due.BEYOND);
        for (int i = 0; i < rows * columns; i++) {
          due.is("ofSquare(" + i + ", 4)", x.ofSquare(i, 4), 4);
        }
      }
    }
  }

  private static void hallAgain() {
    due.part("promise 2: all SQUARES as at first");
    for (int side = 1; side <= 5; side += 4) {
      TurnedBeam x = Due.built(5, 5, "5555566666333331111155555", "9876598765987659876598765", "1111111111111111111111111");
      for (int w = 0; w < 20; w++) {
        x.let(w);
      }
      x.hall(side, side);
      x.hall(5, 5);
      due.is("slants()", x.slants(), 0);
      for (int i = 0; i < 25; i++) {
        for (int what = 0; what <= 4; what++) {
          due.is("ofSquare(" + i + ", " + what + ")", x.ofSquare(i, what), 0);
        }
      }
    }
  }

  private static void firstAndLastSquare() {
    due.part("terms: SQUARES numbered by rows, from 0 on");
    TurnedBeam x = new TurnedBeam();
    x.hall(5, 5);
    due.is("square(0, 11, 1)", x.square(0, 11, 1), 0);
    due.is("square(24, 12, 1)", x.square(24, 12, 1), 0);
    due.is("slants()", x.slants(), 1 | 1 << 24);
    due.is("hand(24)", x.hand(24), 0);
    due.is("hand(0)", x.hand(0), 0);
    due.is("as(24, 1)", x.as(24, 1), 2);
    due.is("way(8, 4)", x.way(8, 4), 15);
    due.is("way(1, 0)", x.way(1, 0), 1);
    due.is("way(11, 0)", x.way(11, 0), 21);
    due.is("voice(24, 0, 0)", x.voice(24, 0, 0), 24);
    due.is("throne(24, 9, 0)", x.throne(24, 9, 0), 0);
  }

  private static void leastAndMostKindAndNumber() {
    due.part("promise 3: km: 10 times the KIND (0 to 6), and m (0 to 9)");
    TurnedBeam x = new TurnedBeam();
    due.is("square(0, 69, 1)", x.square(0, 69, 1), 0);
    due.is("ofSquare(0, 0)", x.ofSquare(0, 0), 6);
    due.is("ofSquare(0, 1)", x.ofSquare(0, 1), 9);
    due.is("square(0, 0, 0)", x.square(0, 0, 0), 6);
    due.is("ofSquare(0, 0) then", x.ofSquare(0, 0), 0);
    due.is("ofSquare(0, 1) then", x.ofSquare(0, 1), 0);
    due.is("square(0, 9, 0)", x.square(0, 9, 0), 0);
    due.is("square(0, 10, 0)", x.square(0, 10, 0), 0);
    due.is("ofSquare(0, 1) of 10", x.ofSquare(0, 1), 0);
    due.is("square(0, 10, 0) again", x.square(0, 10, 0), 1);
  }

  private static void squareTakesTimeAway() {
    due.part("promise 3: TIME 0");
    TurnedBeam x = Due.built(1, 3, "535", "222", "000");
    x.let(0);
    x.let(3);
    due.is("ofSquare(0, 3)", x.ofSquare(0, 3), 1);
    due.is("square(0, 52, 0), the same again", x.square(0, 52, 0), 5);
    due.is("ofSquare(0, 3) then", x.ofSquare(0, 3), 0);
    due.is("ofSquare(0, 4) then", x.ofSquare(0, 4), 1);
    due.is("ofSquare(2, 3) of the other one", x.ofSquare(2, 3), 1);
  }

  private static TurnedBeam litBy(int times) {
    TurnedBeam x = new TurnedBeam();
    for (int left = times; left > 0; left -= 200) {
      x.days(Math.min(200, left));
    }
    return x;
  }

  private static void noMoreLitIsCounted() {
    due.part("terms: LIT, no more than 9999 is counted");
    TurnedBeam x = litBy(9998);
    due.is("ofSquare(0, 4)", x.ofSquare(0, 4), 9998);
    for (int i = 0; i < 3; i++) {
      x.let(i);
      due.is("ofSquare(0, 4) behind let(" + i + ")", x.ofSquare(0, 4), 9999);
    }
    due.is("count(4)", x.count(4), 9999);
    x.undo(0);
    due.is("ofSquare(0, 4) behind undo(0)", x.ofSquare(0, 4), 9998);
  }

  private static void litOfAllTogetherGoesOn() {
    due.part("promise 36: LIT of all together is not held at 9999");
    TurnedBeam x = new TurnedBeam();
    x.hall(1, 2);
    int[] all = new int[40];
    java.util.Arrays.fill(all, 2);
    Due.sheet(x, 0, 8, all);
    for (int i = 0; i < 251; i++) {
      x.lets(0);
    }
    due.is("ofSquare(0, 4)", x.ofSquare(0, 4), 9999);
    due.is("ofSquare(1, 4)", x.ofSquare(1, 4), 9999);
    due.is("count(4)", x.count(4), 19998);
  }

  private static void litIsZeroAtLeast() {
    due.part("terms: UNDONE, LIT is 1 less, 0 at least");
    TurnedBeam x = new TurnedBeam();
    x.let(0);
    x.let(0);
    int[] left = {1, 0, 0, 0};
    for (int lit : left) {
      due.is("undo(2)", x.undo(2), 0);
      due.is("ofSquare(0, 4)", x.ofSquare(0, 4), lit);
    }
    due.is("count(4) behind rays undone that never were", LongHalls.turnedAheadOf5001().hall.count(4), 0);
  }

  private static void timeGoesRound() {
    due.part("terms: if TIME is 2 and m modulo 3, TIME is 0");
    for (int m = 0; m <= 9; m++) {
      TurnedBeam x = new TurnedBeam();
      x.square(0, 50 + m, 1);
      int most = 2 + m % 3;
      for (int i = 1; i < most; i++) {
        x.let(0);
        due.is("TIME of " + m, x.ofSquare(0, 3), i);
        due.is("SLANT of " + m, x.ofSquare(0, 2), 1);
      }
      x.let(0);
      due.is("TIME of " + m + " at the last", x.ofSquare(0, 3), 0);
      due.is("SLANT of " + m + " at the last", x.ofSquare(0, 2), 0);
    }
  }

  private static void stoppedAtOnce() {
    due.part("terms: a CURTAIN, a SEAT stops it there");
    for (int kind = 3; kind <= 6; kind += 3) {
      for (int w = 0; w < 4; w++) {
        TurnedBeam x = new TurnedBeam();
        x.square(0, 10 * kind, 0);
        int[] would = {100, 1, 0, 0};
        for (int what = 0; what < 4; what++) {
          due.is("out(" + w + ", " + what + ")", x.out(w, what), would[what]);
        }
        due.is("way(" + w + ", 0)", x.way(w, 0), 0);
        due.is("way(" + w + ", 1)", x.way(w, 1), Due.NONE);
        due.is("let(" + w + ")", x.let(w), 100);
        due.is("ofSquare(0, 4)", x.ofSquare(0, 4), 1);
      }
    }
  }

  private static void fiveThousandSteps() {
    due.part("terms: a RAY of 5000 STEPS comes out");
    TurnedBeam x = LongHalls.aheadOf5000().hall;
    int lit = x.count(4);
    due.is("out(12, 1)", x.out(12, 1), 5000);
    due.is("out(12, 0)", x.out(12, 0), 8);
    due.is("way(12, 4999), behind window 8", x.way(12, 4999), 19);
    due.is("way(12, 5000)", x.way(12, 5000), Due.NONE);
    due.is("longest(0)", x.longest(0), 12);
    due.is("longest(1)", x.longest(1), 5000);
    due.is("let(12)", x.let(12), 8);
    due.is("count(4)", x.count(4), lit + 5000);
  }

  private static void fiveThousandAndOneSteps() {
    due.part("terms: it is stopped, too, behind 5000 STEPS");
    TurnedBeam x = LongHalls.aheadOf5001().hall;
    int lit = x.count(4);
    due.is("out(17, 0)", x.out(17, 0), 100);
    due.is("out(17, 1)", x.out(17, 1), 5000);
    due.is("way(17, 4999)", x.way(17, 4999) >= 0 ? 1 : 0, 1);
    due.is("way(17, 5000)", x.way(17, 5000), Due.NONE);
    due.is("longest(1)", x.longest(1), 5000);
    due.is("odds(0, 17, 100, 0)", x.odds(0, 17, 100, 0), 1);
    due.is("let(17)", x.let(17), 100);
    due.is("count(4)", x.count(4), lit + 5000);
  }

  private static void fiveThousandStepsBack() {
    due.part("terms: UNDONE, 5000 STEPS can be");
    TurnedBeam x = LongHalls.aheadOf5000().hall;
    int slants = x.slants();
    int[] times = new int[25];
    int[] lit = new int[25];
    for (int i = 0; i < 25; i++) {
      times[i] = x.ofSquare(i, 3);
      lit[i] = x.ofSquare(i, 4);
    }
    x.let(12);
    due.is("undo(8)", x.undo(8), 12);
    due.is("slants()", x.slants(), slants);
    for (int i = 0; i < 25; i++) {
      due.is("ofSquare(" + i + ", 3)", x.ofSquare(i, 3), times[i]);
      due.is("ofSquare(" + i + ", 4)", x.ofSquare(i, 4), lit[i]);
    }
  }

  private static void fiveThousandAndOneStepsBack() {
    due.part("terms: UNDONE, more than 5000 STEPS can't be");
    TurnedBeam x = LongHalls.turnedAheadOf5001().hall;
    int slants = x.slants();
    due.is("undo(17)", x.undo(17), Due.STATE);
    due.is("slants()", x.slants(), slants);
    due.is("undo(17) again", x.undo(17), Due.STATE);
  }

  /** TAKINGS of 99990, or of -99990, in a hall of one mirror. */
  private static TurnedBeam rich(int sign) {
    TurnedBeam x = Due.hall("/");
    Due.text(x, 1, sign > 0 ? "99" : "0-99");
    Due.sheet(x, 0, 8, new int[40]);
    for (int i = 0; i < 25; i++) {
      x.lets(0);
    }
    for (int i = 0; i < 10; i++) {
      x.let(0);
    }
    return x;
  }

  private static void takingsAtTheTop() {
    due.part("terms: TAKINGS held within -99999 to 99999");
    TurnedBeam x = rich(1);
    due.is("count(5)", x.count(5), 99990);
    Due.text(x, 1, "8");
    x.let(0);
    due.is("count(5) of 8 more", x.count(5), 99998);
    Due.text(x, 1, "1");
    x.let(0);
    due.is("count(5) of one more", x.count(5), 99999);
    x.let(0);
    due.is("count(5) of one too many", x.count(5), 99999);
    Due.text(x, 1, "0-1");
    x.let(0);
    due.is("count(5) of one less", x.count(5), 99998);
  }

  private static void takingsAtTheBottom() {
    due.part("terms: TAKINGS held within -99999 on");
    TurnedBeam x = rich(-1);
    due.is("count(5)", x.count(5), -99990);
    Due.text(x, 1, "0-8");
    x.let(0);
    due.is("count(5) of 8 less", x.count(5), -99998);
    Due.text(x, 1, "0-1");
    x.let(0);
    due.is("count(5) of one less", x.count(5), -99999);
    x.let(0);
    due.is("count(5) of one too few", x.count(5), -99999);
    Due.text(x, 1, "1");
    x.let(0);
    due.is("count(5) of one more", x.count(5), -99998);
  }

  private static void takingsAreHeldRayByRay() {
    due.part("terms: TAKINGS are held behind each RAY of lets()");
    TurnedBeam x = rich(1);
    Due.text(x, 1, "50-i*99");
    Due.sheet(x, 0, 8, 0, 1);
    due.is("lets(0)", x.lets(0), 2);
    due.is("count(5)", x.count(5), 99999 - 49);
  }

  private static void takingsAreHeldBetweenHandAndRay() {
    due.part("terms: TAKINGS are held behind the HAND of a DAY, ahead of its RAY");
    TurnedBeam x = rich(-1);
    Due.text(x, 0, "99");
    Due.text(x, 1, "3");
    due.is("days(1)", x.days(1), -99996);
    due.is("days(1) again", x.days(1), -99996);
    TurnedBeam y = rich(1);
    Due.text(y, 0, "1");
    due.is("days(2) at the top", y.days(2), 99999);
  }

  private static void handAtTheBottom() {
    due.part("promise 6: TAKINGS are less by what it costs, held");
    TurnedBeam x = rich(-1);
    Due.text(x, 0, "9");
    due.is("hand(0)", x.hand(0), 1);
    due.is("count(5)", x.count(5), -99999);
    due.is("hand(0) again", x.hand(0), 0);
    due.is("count(5) again", x.count(5), -99999);
    Due.text(x, 0, "0-9");
    x.hand(0);
    due.is("a HAND costs 0 at least", x.count(5), -99999);
  }

  private static void wayIsAsLongAsSteps() {
    due.part("promise 10: there is none such behind the last STEP");
    TurnedBeam x = Due.built(4, 4, "1151114551115111", "0123012301230123", "0110100111010010");
    for (int w = 0; w < 16; w++) {
      int steps = x.out(w, 1);
      for (int i = 0; i < steps; i++) {
        due.is("way(" + w + ", " + i + ") is a SQUARE", x.way(w, i) >= 0 && x.way(w, i) < 16 ? 1 : 0, 1);
      }
      due.is("way(" + w + ", " + steps + ")", x.way(w, steps), Due.NONE);
    }
  }

  private static void undoTurnsSlowOnesBack() {
    due.part("terms: UNDONE of a SLOW one whose TIME is 0");
    for (int m = 0; m <= 9; m++) {
      TurnedBeam x = new TurnedBeam();
      x.square(0, 50 + m, 1);
      due.is("undo(3), thrown with SLANT 0", x.undo(3), 0);
      due.is("TIME of " + m, x.ofSquare(0, 3), 1 + m % 3);
      due.is("SLANT of " + m, x.ofSquare(0, 2), 0);
      due.is("let(0) once more", x.let(0), 3);
      due.is("TIME of " + m + " then", x.ofSquare(0, 3), 0);
    }
    for (int m = 0; m <= 9; m++) {
      TurnedBeam x = new TurnedBeam();
      x.square(0, 50 + m, 1);
      for (int i = 0; i < 20; i++) {
        x.let(i % 4);
      }
      for (int i = 19; i >= 0; i--) {
        int out = 0;
        TurnedBeam y = new TurnedBeam();
        y.square(0, 50 + m, 1);
        for (int j = 0; j <= i; j++) {
          out = y.let(j % 4);
        }
        due.is("undo(" + out + ") of ray " + i, x.undo(out), i % 4);
      }
      due.is("SLANT of " + m + " as at first", x.ofSquare(0, 2), 1);
      due.is("TIME of " + m + " as at first", x.ofSquare(0, 3), 0);
    }
  }

  private static void undoKeepsTakings() {
    due.part("terms: UNDONE (but TAKINGS)");
    TurnedBeam x = Due.hall("/l");
    Due.text(x, 1, "7");
    int out = x.let(0);
    due.is("undo(..)", x.undo(out), 0);
    due.is("count(5)", x.count(5), 7);
    due.is("slants()", x.slants(), 0);
  }

  private static void costOfNoHand() {
    due.part("promise 4: what a HAND costs (-1: it can't be)");
    TurnedBeam x = new TurnedBeam();
    x.hall(5, 5);
    Due.text(x, 0, "0");
    for (int kind = 0; kind <= 6; kind++) {
      x.square(24, 10 * kind + 9, 0);
      due.is("ofSquare(24, 5) of " + kind, x.ofSquare(24, 5), kind == 1 || kind == 5 ? 0 : -1);
    }
    x.square(24, 19, 0);
    x.square(0, 10, 0);
    Due.text(x, 0, "r*16+c*5+m");
    due.is("ofSquare(24, 5), the last row and column", x.ofSquare(24, 5), 4 * 16 + 4 * 5 + 9);
    due.is("ofSquare(0, 5), the first ones", x.ofSquare(0, 5), 0);
  }

  private static void costsByRowAndColumn() {
    due.part("terms: r its row, c its column");
    for (int rows = 1; rows <= 5; rows++) {
      for (int columns = 1; columns <= 5; columns++) {
        TurnedBeam x = new TurnedBeam();
        x.hall(rows, columns);
        Due.text(x, 0, "r*10+c*2+1");
        int takings = 0;
        for (int i = 0; i < rows * columns; i++) {
          int cost = i / columns * 10 + i % columns * 2 + 1;
          x.square(i, 18, 0);
          due.is("ofSquare(" + i + ", 5) of " + rows + " by " + columns, x.ofSquare(i, 5), cost);
          x.hand(i);
          takings -= cost;
          due.is("count(5)", x.count(5), takings);
        }
      }
    }
  }

  private static void slantsWithoutMirrors() {
    due.part("promise 7: SLANTS of all SQUARES");
    TurnedBeam x = new TurnedBeam();
    x.hall(5, 5);
    for (int i = 0; i < 25; i++) {
      x.square(i, 10 * (i % 7), 1);
    }
    due.is("slants() of all", x.slants(), (1 << 25) - 1);
    x.square(24, 0, 0);
    due.is("slants() of all but the last", x.slants(), (1 << 24) - 1);
  }
}
