/** Each sentence of promises 23 to 37, and of the terms under 3 and 4, that names a boundary; refusals stand in RefusedCallsTest. */
public final class DayBoundariesTest {
  private static final Due due = new Due();
  private static final int MIN = Integer.MIN_VALUE;
  private static final int MAX = Integer.MAX_VALUE;

  public static void main(String[] args) {
    oneDayAndTwoHundred();
    lastDay();
    drawsWrap();
    drawsByLargestRests();
    handIfItCanBe();
    seedOfAnyNumber();
    answersThatAreNoErrors();
    voicesGoRound();
    voicesOfFirstAndLastSquare();
    traceOfLatestVoice();
    traceStaysBehindRestore();
    sheetsNoughtToThree();
    sheetOfNoneAndForty();
    sheetMissingAgain();
    sheetStateAheadOfBeyond();
    sheetOfOtherBits();
    putLowestBits();
    putFirstAndLast();
    moveAsTheyAllWere();
    moveNone();
    moveToTheEnd();
    letsUpToTheFirst();
    letsOfNoneAndAll();
    judgeLacksOrTooMany();
    judgeAnswersTheFirst();
    imageInPlaceOfOneAhead();
    imageOfNothing();
    imageKeepsFullTapeAndWaiting();
    restoreTellsTheDay();
    tellTwenty();
    checkTakesThemAll();
    checkBeyondTheLastWindow();
    checkEachAsIfAlone();
    countFirstAndLast();
    toldOfEach();
    due.end();
  }

  private static void oneDayAndTwoHundred() {
    due.part("promise 23: n (1 to 200) DAYS");
    TurnedBeam x = new TurnedBeam();
    due.is("days(1)", x.days(1), 0);
    due.is("count(6)", x.count(6), 1);
    due.is("count(4)", x.count(4), 1);
    due.is("days(200)", x.days(200), 0);
    due.is("count(6) then", x.count(6), 201);
    due.is("count(4) then", x.count(4), 201);
  }

  private static void lastDay() {
    due.part("promise 23: DAY, 9999 at most");
    TurnedBeam x = new TurnedBeam();
    for (int i = 0; i < 49; i++) {
      x.days(200);
    }
    due.is("days(200) to 10000", x.days(200), Due.STATE);
    due.is("days(199) to 9999", x.days(199), 0);
    due.is("count(6)", x.count(6), 9999);
    due.is("days(1) to 10000", x.days(1), Due.STATE);
    due.is("image()", x.image(), 1);
    due.is("restore()", x.restore(), 9999);
  }

  private static void drawsWrap() {
    due.part("terms: z * 1103515245 + 12345 (an int), gives z >>> 8");
    int[] seeds = {0, 1, -1, MIN, MAX, 123456789, -987654321, 1 << 31 | 255};
    for (int rows = 1; rows <= 5; rows++) {
      for (int seed : seeds) {
        TurnedBeam x = new TurnedBeam();
        x.hall(rows, 4);
        for (int i = 0; i < rows * 4; i++) {
          x.square(i, 30, 0);
        }
        Due.text(x, 1, "i");
        x.seed(seed);
        int first = seed * 1103515245 + 12345;
        int second = first * 1103515245 + 12345;
        due.is("days(1) from " + seed, x.days(1), (second >>> 8) % (2 * (rows + 4)));
        due.is("count(10)", x.count(10), second);
      }
    }
  }

  private static void drawsByLargestRests() {
    due.part("terms: the rests by how many SQUARES, WINDOWS there are");
    boolean[] squares = new boolean[6];
    boolean[] windows = new boolean[10];
    for (int seed = 0; seed < 200; seed++) {
      TurnedBeam x = Due.built(2, 3, "111111", "012345", "000000");
      Due.text(x, 0, "r*3+c");
      Due.text(x, 1, "i*6+6");
      x.seed(seed);
      int first = seed * 1103515245 + 12345;
      int second = first * 1103515245 + 12345;
      int square = (first >>> 8) % 6;
      int window = (second >>> 8) % 10;
      squares[square] = true;
      windows[window] = true;
      due.is("days(1) from " + seed, x.days(1), window * 6 + 6 - square);
    }
    for (boolean drawn : squares) {
      due.is("each SQUARE was drawn", drawn ? 1 : 0, 1);
    }
    for (boolean drawn : windows) {
      due.is("each WINDOW was drawn", drawn ? 1 : 0, 1);
    }
  }

  private static void handIfItCanBe() {
    due.part("terms: a HAND there, if it can be");
    for (int kind = 0; kind <= 6; kind++) {
      TurnedBeam x = new TurnedBeam();
      x.square(0, 10 * kind + 2, 0);
      boolean can = kind == 1 || kind == 5;
      due.is("days(1) of " + kind, x.days(1), can ? -7 : 0);
      // the hand turns either, the ray a MIRROR alone at once
      due.is("SLANT of " + kind, x.ofSquare(0, 2), kind == 5 ? 1 : 0);
      due.is("LIT of " + kind, x.ofSquare(0, 4), 1);
    }
  }

  private static void seedOfAnyNumber() {
    due.part("promise 24: what it was (any number)");
    TurnedBeam x = new TurnedBeam();
    int before = 1;
    for (int v : new int[] {MIN, -1000000001, -1000000005, -1, 0, MAX, 1}) {
      due.is("seed(" + v + ")", x.seed(v), before);
      due.is("count(10)", x.count(10), v);
      before = v;
    }
  }

  private static void answersThatAreNoErrors() {
    due.part("promises 24, 25 and 36: any number is no ERROR");
    TurnedBeam x = new TurnedBeam();
    for (int k = 1; k <= 5; k++) {
      x.seed(-1000000000 - k);
      x.count(10);
      x.seed(0);
      due.is("voice(0, 0, ..)", x.voice(0, 0, -1000000000 - k), -1000000000 - k);
    }
    Due.text(x, 0, "");
    for (int k = 1; k <= 5; k++) {
      due.is("told(" + k + ")", x.told(k), 0);
    }
  }

  private static void voicesGoRound() {
    due.part("terms: ints that go round");
    int[] numbers = {MIN, MIN + 1, MAX, MAX - 1, 1 << 30, -(1 << 30) - 1, 0x55555555};
    for (int v : numbers) {
      TurnedBeam x = new TurnedBeam();
      x.hall(1, 5);
      x.square(4, 9, 0);
      due.is("casts", x.voice(4, 0, v), v + 4);
      due.is("turns", x.voice(4, 1, v), (v + 4) * 2);
      due.is("lights", x.voice(4, 2, v), v - 9);
      due.is("tells", x.voice(4, 3, v), (v + 4) * 2 ^ v - 9);
      x.square(4, 17, 0);
      due.is("turns of a MIRROR", x.voice(4, 1, v), (v + 4) * 2 - (1 - 7));
      x.square(4, 27, 0);
      due.is("casts of a THRONE", x.voice(4, 0, v), (v + 4) * 3);
      x.square(4, 37, 0);
      due.is("lights of a CURTAIN", x.voice(4, 2, v), -(v - 7));
      x.square(4, 47, 0);
      due.is("turns of a STUCK one", x.voice(4, 1, v), (v + 1 + 4) * 2 - (1 - 7));
      x.square(4, 57, 0);
      due.is("tells of a SLOW one", x.voice(4, 3, v), ((v + 4) * 2 - (1 - 7) ^ v - 7) - (2 + 4));
      x.square(4, 67, 0);
      int turns = (v + 4) * 3 * 2;
      int lights = v - 7 ^ 4;
      due.is("lights of a SEAT", x.voice(4, 2, v), lights);
      due.is("tells of a SEAT", x.voice(4, 3, v), turns - (turns ^ lights));
    }
  }

  private static void voicesOfFirstAndLastSquare() {
    due.part("terms: n is its number, m as told");
    TurnedBeam x = new TurnedBeam();
    x.hall(5, 5);
    for (int n = 0; n < 25; n++) {
      x.square(n, n % 10, 0);
      due.is("voice(" + n + ", 0, 0)", x.voice(n, 0, 0), n);
      due.is("voice(" + n + ", 2, 0)", x.voice(n, 2, 0), -(n % 10));
    }
  }

  private static void traceOfLatestVoice() {
    due.part("promise 26: THE TRACE of the latest voice()");
    TurnedBeam x = new TurnedBeam();
    due.is("count(9)", x.count(9), 0);
    due.is("trace(0)", x.trace(0), Due.NONE);
    x.square(0, 60, 0);
    x.voice(0, 3, 1);
    int[] bodies = {71, 11, 30, 10, 13, 11, 30, 10, 70, 12};
    due.is("count(9) of a SEAT", x.count(9), bodies.length);
    for (int i = 0; i < bodies.length; i++) {
      due.is("trace(" + i + ")", x.trace(i), bodies[i]);
    }
    due.is("trace(10)", x.trace(10), Due.NONE);
    x.voice(0, 0, 1);
    due.is("count(9) of a shorter one", x.count(9), 2);
    due.is("trace(1)", x.trace(1), 10);
    due.is("trace(2)", x.trace(2), Due.NONE);
  }

  private static void traceStaysBehindRestore() {
    due.part("promise 32: all but THE TRACE");
    TurnedBeam x = new TurnedBeam();
    x.voice(0, 1, 1);
    x.image();
    x.voice(0, 0, 1);
    x.restore();
    due.is("count(9)", x.count(9), 1);
    due.is("trace(0)", x.trace(0), 10);
    x.hall(2, 2);
    due.is("count(9) of another hall", x.count(9), 1);
  }

  private static void sheetsNoughtToThree() {
    due.part("terms: SHEETS 0 .. 3, missing as at first");
    TurnedBeam x = new TurnedBeam();
    for (int s = 0; s < 4; s++) {
      due.is("judge(" + s + ")", x.judge(s), Due.NONE);
      due.is("sheet(" + s + ", 8, 1)", x.sheet(s, 8, 1), 1);
      for (int other = s + 1; other < 4; other++) {
        due.is("judge(" + other + ")", x.judge(other), Due.NONE);
      }
    }
    x.put(2, 0, 1);
    int[] due0 = {-1, -1, 0, -1};
    for (int s = 0; s < 4; s++) {
      due.is("judge(" + s + ") then", x.judge(s), due0[s]);
    }
  }

  private static void sheetOfNoneAndForty() {
    due.part("terms: at most 40 numbers");
    TurnedBeam x = new TurnedBeam();
    for (int bits = 8; bits <= 32; bits *= 2) {
      due.is("sheet(0, " + bits + ", 0)", x.sheet(0, bits, 0), 1);
      due.is("put(0, 0, 0) of none", x.put(0, 0, 0), Due.BEYOND);
      due.is("judge(0) of none", x.judge(0), 0);
      due.is("sheet(0, " + bits + ", 40)", x.sheet(0, bits, 40), 1);
      due.is("put(0, 39, 0)", x.put(0, 39, 0), 1);
      due.is("put(0, 40, 0)", x.put(0, 40, 0), Due.BEYOND);
      due.is("lets(0) of 40", x.lets(0), 40);
      due.is("sheet(0, " + bits + ", 41)", x.sheet(0, bits, 41), Due.BEYOND);
      due.is("lets(0) of 40 still", x.lets(0), 40);
      due.is("sheet(0, " + bits + ", 1), all 0 again", x.sheet(0, bits, 1), 1);
      due.is("judge(0)", x.judge(0), -1);
    }
  }

  private static void sheetMissingAgain() {
    due.part("promise 27: 0: it is missing, n doesn't matter");
    for (int n : new int[] {0, 1, 40, 41, -1, MIN, MAX}) {
      TurnedBeam x = new TurnedBeam();
      x.sheet(1, 8, 2);
      due.is("sheet(1, 0, " + n + ")", x.sheet(1, 0, n), 1);
      due.is("put(1, 0, 0)", x.put(1, 0, 0), Due.NONE);
      due.is("sheet(1, 0, " + n + ") of a missing one", x.sheet(1, 0, n), 1);
      due.is("told(1)", x.told(1), 0);
      due.is("told(3)", x.told(3), 0);
    }
  }

  private static void sheetStateAheadOfBeyond() {
    due.part("promise 27: STATE, n is below 0 (ahead of BEYOND of n)");
    TurnedBeam x = new TurnedBeam();
    for (int bits = 8; bits <= 32; bits *= 2) {
      due.is("sheet(0, " + bits + ", -1)", x.sheet(0, bits, -1), Due.STATE);
      due.is("sheet(0, " + bits + ", MIN)", x.sheet(0, bits, MIN), Due.STATE);
    }
    due.is("judge(0), it is missing still", x.judge(0), Due.NONE);
  }

  private static void sheetOfOtherBits() {
    due.part("promise 27: a SHEET anew, all 0");
    TurnedBeam x = new TurnedBeam();
    x.hall(1, 2);
    Due.sheet(x, 0, 32, MAX, 77);
    due.is("judge(0)", x.judge(0), 0);
    x.sheet(0, 8, 2);
    due.is("judge(0) of 8 bits", x.judge(0), -1);
    x.put(0, 1, 256 + 1);
    due.is("judge(0), its lowest bits", x.judge(0), 1);
    x.square(1, 0, 1);
    due.is("judge(0) with a slant", x.judge(0), -1);
  }

  private static void putLowestBits() {
    due.part("promise 28: v (its lowest bits)");
    int[] given = {1, 1 + 256, 1 + 65536, 1 - 256, 1 - 65536, MIN + 1, 1 + (1 << 24), 0xFFFF01, 0xFF0001, 257 + 65536, 2, -1};
    int[] of8 = {1, 1, 1, 1, 1, 1, 1, 1, 1, 1, 2, 255};
    for (int i = 0; i < given.length; i++) {
      for (int bits = 8; bits <= 32; bits *= 2) {
        TurnedBeam x = new TurnedBeam();
        x.square(0, 0, 1);
        Due.sheet(x, 0, bits, given[i]);
        long lowest = given[i] & (1L << bits) - 1;
        due.is("judge(0) of " + given[i] + " in " + bits, x.judge(0), lowest == 1 ? -1 : 0);
        due.is("of 8 bits", bits != 8 || lowest == of8[i] ? 1 : 0, 1);
        due.is("lets(0) of " + given[i] + " in " + bits, x.lets(0), lowest >= 0 && lowest <= 3 ? 1 : 0);
      }
    }
  }

  private static void putFirstAndLast() {
    due.part("promise 28: no such number");
    TurnedBeam x = new TurnedBeam();
    x.sheet(0, 16, 3);
    int[] at = {-1, 0, 2, 3, 39, 40, MIN, MAX};
    for (int i : at) {
      due.is("put(0, " + i + ", 1)", x.put(0, i, 1), i == 0 || i == 2 ? 1 : Due.BEYOND);
    }
    x.hall(1, 3);
    x.square(0, 0, 1);
    x.square(2, 0, 1);
    due.is("judge(0)", x.judge(0), -1);
  }

  /** The numbers of a sheet, as slants of a row of squares. */
  private static void numbersAre(TurnedBeam x, int sheet, String numbers) {
    x.hall(1, numbers.length());
    for (int i = 0; i < numbers.length(); i++) {
      x.square(i, 0, numbers.charAt(i) - '0');
    }
    due.is("judge(" + sheet + ") of " + numbers, x.judge(sheet), -1);
  }

  private static TurnedBeam ofNumbers(String numbers) {
    TurnedBeam x = new TurnedBeam();
    int[] row = new int[numbers.length()];
    for (int i = 0; i < row.length; i++) {
      row[i] = numbers.charAt(i) - '0';
    }
    Due.sheet(x, 0, 8, row);
    return x;
  }

  private static void moveAsTheyAllWere() {
    due.part("promise 29: to the same one, as they all were");
    TurnedBeam x = ofNumbers("10010");
    due.is("move(0, 0, 0, 1, 4)", x.move(0, 0, 0, 1, 4), 4);
    numbersAre(x, 0, "11001");
    TurnedBeam y = ofNumbers("01101");
    due.is("move(0, 1, 0, 0, 4)", y.move(0, 1, 0, 0, 4), 4);
    numbersAre(y, 0, "11011");
    TurnedBeam z = ofNumbers("10110");
    due.is("move(0, 0, 0, 0, 5)", z.move(0, 0, 0, 0, 5), 5);
    numbersAre(z, 0, "10110");
    due.is("move(0, 2, 0, 0, 2)", z.move(0, 2, 0, 0, 2), 2);
    numbersAre(z, 0, "11110");
  }

  private static void moveNone() {
    due.part("promise 29: n of 0");
    TurnedBeam x = ofNumbers("101");
    x.sheet(1, 8, 0);
    due.is("move(0, 0, 1, 0, 0)", x.move(0, 0, 1, 0, 0), 0);
    due.is("move(0, 3, 1, 0, 0), from the end", x.move(0, 3, 1, 0, 0), 0);
    due.is("move(1, 0, 0, 3, 0), to the end", x.move(1, 0, 0, 3, 0), 0);
    due.is("move(0, 0, 1, 0, 1)", x.move(0, 0, 1, 0, 1), Due.BEYOND);
    due.is("move(1, 0, 0, 0, 1)", x.move(1, 0, 0, 0, 1), Due.BEYOND);
    numbersAre(x, 0, "101");
  }

  private static void moveToTheEnd() {
    due.part("promise 29: the last numbers");
    TurnedBeam x = ofNumbers("00111");
    x.sheet(3, 8, 4);
    due.is("move(0, 2, 3, 1, 3)", x.move(0, 2, 3, 1, 3), 3);
    numbersAre(x, 3, "0111");
    numbersAre(x, 0, "00111");
    due.is("move(0, 4, 3, 0, 1)", x.move(0, 4, 3, 0, 1), 1);
    numbersAre(x, 3, "1111");
    due.is("move(0, 0, 3, 3, 1)", x.move(0, 0, 3, 3, 1), 1);
    numbersAre(x, 3, "1110");
    TurnedBeam y = new TurnedBeam();
    y.sheet(0, 32, 40);
    y.sheet(1, 32, 40);
    y.put(0, 39, -1);
    due.is("move(0, 0, 1, 0, 40)", y.move(0, 0, 1, 0, 40), 40);
    due.is("lets(1)", y.lets(1), 39);
  }

  private static void letsUpToTheFirst() {
    due.part("promise 30: up to the first that is none (no ERROR then)");
    TurnedBeam x = new TurnedBeam();
    for (int none : new int[] {4, 100, 255, -1, MIN, MAX}) {
      for (int at = 0; at < 3; at++) {
        Due.sheet(x, 0, 32, 3, 0, 2);
        x.put(0, at, none);
        int lit = x.count(4);
        due.is("lets(0), none at " + at, x.lets(0), at);
        due.is("count(4)", x.count(4), lit + at);
      }
    }
    due.is("told(1)", x.told(1), 0);
  }

  private static void letsOfNoneAndAll() {
    due.part("promise 30: of no numbers, of 40");
    TurnedBeam x = Due.hall("/");
    x.sheet(0, 8, 0);
    due.is("lets(0) of none", x.lets(0), 0);
    x.sheet(0, 8, 40);
    due.is("lets(0) of 40", x.lets(0), 40);
    due.is("slants() behind 40", x.slants(), 0);
    x.sheet(0, 8, 39);
    due.is("lets(0) of 39", x.lets(0), 39);
    due.is("slants() behind 39", x.slants(), 1);
  }

  private static void judgeLacksOrTooMany() {
    due.part("promise 31: one that lacks, or is too many, too");
    TurnedBeam x = new TurnedBeam();
    x.hall(2, 2);
    int[] want = {0, 1, 2, 3, -1, 4, 4};
    for (int n = 0; n < want.length; n++) {
      x.sheet(0, 16, n);
      due.is("judge(0) of " + n, x.judge(0), want[n]);
    }
    x.hall(5, 5);
    x.sheet(0, 16, 25);
    due.is("judge(0) of 25", x.judge(0), -1);
    x.sheet(0, 16, 40);
    due.is("judge(0) of 40", x.judge(0), 25);
    x.sheet(0, 16, 24);
    due.is("judge(0) of 24", x.judge(0), 24);
  }

  private static void judgeAnswersTheFirst() {
    due.part("promise 31: the first that isn't so");
    TurnedBeam x = new TurnedBeam();
    x.hall(1, 4);
    for (int wrong = 0; wrong < 4; wrong++) {
      for (int v : new int[] {1, 2, -1, MAX}) {
        for (int n = 3; n <= 5; n++) {
          x.sheet(0, 32, n);
          x.put(0, wrong, v);
          due.is("judge(0), " + v + " at " + wrong + " of " + n, x.judge(0), Math.min(wrong, n));
          x.put(0, 3, 9);
          due.is("judge(0), one more", x.judge(0), Math.min(wrong, n));
        }
      }
    }
  }

  private static void imageInPlaceOfOneAhead() {
    due.part("promise 32: in place of one ahead: how often");
    TurnedBeam x = new TurnedBeam();
    for (int i = 1; i <= 5; i++) {
      x.days(1);
      due.is("image()", x.image(), i);
      x.days(7);
      due.is("restore()", x.restore(), i);
    }
    due.is("image(), how often is not kept", x.image(), 6);
  }

  private static void imageOfNothing() {
    due.part("promise 33: an IMAGE of a new object");
    TurnedBeam x = new TurnedBeam();
    due.is("restore()", x.restore(), Due.NONE);
    due.is("image()", x.image(), 1);
    x.hall(5, 5);
    Due.text(x, 0, "1");
    Due.text(x, 1, "2");
    x.days(9);
    x.tell(1);
    x.feed(1, 1);
    due.is("restore()", x.restore(), 0);
    int[] counts = {1, 1, 4, 0, 0, 0, 0, 0, 0, 0, 1};
    for (int i = 0; i < counts.length; i++) {
      due.is("count(" + i + ")", x.count(i), counts[i]);
    }
    due.is("law(0, 0, 0, 4), no TEXT", x.law(0, 0, 0, 4), 9);
    due.is("law(1, 0, 0, 4), no TEXT", x.law(1, 0, 0, 4), 0);
    due.is("told(2)", x.told(2), 1);
  }

  private static void imageKeepsFullTapeAndWaiting() {
    due.part("promise 32: a full TAPE, 20 numbers that wait");
    TurnedBeam x = new TurnedBeam();
    x.hall(5, 5);
    Due.feed(x, "m+0+1+1+1+1+1+1+1+1+1+1+1+1+1+1+1+1+1+1+1+1+1+1+11");
    for (int i = 0; i < 20; i++) {
      x.tell((i + 10) % 20);
    }
    x.image();
    for (int i = 0; i < 2; i++) {
      due.is("count(7)", x.count(7), 50);
      due.is("count(8)", x.count(8), 20);
      due.is("text(0)", x.text(0), 1);
      due.is("law(0, 0, 0, 5)", x.law(0, 0, 0, 5), 5 + 22 + 11);
      due.is("check()", x.check(), 0);
      Due.text(x, 0, "3");
      x.tell(8);
      due.is("restore()", x.restore(), 0);
      due.is("law(0, 0, 0, 5) then", x.law(0, 0, 0, 5), 10);
    }
  }

  private static void restoreTellsTheDay() {
    due.part("promise 33: DAY");
    TurnedBeam x = Due.hall("l/");
    x.days(200);
    x.image();
    int takings = x.count(5);
    int z = x.count(10);
    x.days(13);
    int takingsThen = x.count(5);
    due.is("restore()", x.restore(), 200);
    due.is("count(5)", x.count(5), takings);
    due.is("count(10)", x.count(10), z);
    due.is("days(13) once more", x.days(13), takingsThen);
  }

  private static void tellTwenty() {
    due.part("promise 34: FULL, 20 wait");
    TurnedBeam x = new TurnedBeam();
    for (int i = 1; i <= 20; i++) {
      due.is("tell(..)", x.tell(MIN + i), i);
    }
    due.is("tell(..) of 21", x.tell(2), Due.FULL);
    due.is("count(8)", x.count(8), 20);
    x.check();
    due.is("tell(2) then", x.tell(2), 1);
    due.is("check()", x.check(), 0);
  }

  private static void checkTakesThemAll() {
    due.part("promise 35: none do then");
    TurnedBeam x = new TurnedBeam();
    due.is("check() of none", x.check(), 0);
    x.tell(2);
    x.tell(0);
    x.tell(0);
    due.is("check() of a wrong one", x.check(), 2);
    due.is("count(8)", x.count(8), 0);
    due.is("check() of none then", x.check(), 0);
    for (int out : new int[] {2, 3, 0, 1}) {
      x.tell(out);
    }
    due.is("check() of all right", x.check(), 0);
    due.is("count(8) then", x.count(8), 0);
  }

  private static void checkBeyondTheLastWindow() {
    due.part("promise 35: beyond the last WINDOW, too");
    for (int beyond : new int[] {0, 2, 4, 100, -1}) {
      TurnedBeam x = new TurnedBeam();
      for (int out : new int[] {2, 3, 0, 1, beyond}) {
        x.tell(out);
      }
      due.is("check(), a fifth of " + beyond, x.check(), 5);
    }
    TurnedBeam x = new TurnedBeam();
    for (int i = 0; i < 20; i++) {
      x.tell(i == 1 ? 0 : 2);
    }
    due.is("check() of 20, the second is wrong", x.check(), 2);
  }

  private static void checkEachAsIfAlone() {
    due.part("promise 35: each as if alone");
    TurnedBeam x = Due.hall("/");
    for (int out : new int[] {3, 2, 1, 0}) {
      x.tell(out);
    }
    due.is("check()", x.check(), 0);
    due.is("slants()", x.slants(), 0);
    due.is("count(4)", x.count(4), 0);
    TurnedBeam y = Due.hall("l#");
    y.let(0);
    for (int out : new int[] {5, 100, 100, 100, 100, 0}) {
      y.tell(out);
    }
    due.is("check() with TIME", y.check(), 0);
    due.is("TIME", y.ofSquare(0, 3), 1);
  }

  private static void countFirstAndLast() {
    due.part("promise 36: 0 to 10");
    TurnedBeam x = Due.hall("/sl", "t#x");
    int[] counts = {2, 3, 10, 3, 0, 0, 0, 0, 0, 0, 1};
    for (int i = 0; i < counts.length; i++) {
      due.is("count(" + i + ")", x.count(i), counts[i]);
    }
    for (int what : new int[] {-1, 11, MIN, MAX}) {
      due.is("count(" + what + ")", x.count(what), Due.BEYOND);
    }
    x.hall(5, 5);
    for (int i = 0; i < 25; i++) {
      x.square(i, 10, 0);
    }
    due.is("count(3) of all", x.count(3), 25);
  }

  private static void toldOfEach() {
    due.part("promise 37: acts that have answered an ERROR LOW - k (k 1 .. 5)");
    TurnedBeam x = new TurnedBeam();
    int[] told = new int[6];
    for (int round = 0; round < 3; round++) {
      x.let(4);
      told[1]++;
      x.trace(0);
      x.lets(0);
      told[2] += 2;
      x.hand(0);
      x.back(0);
      x.sheet(0, 8, -1);
      told[3] += 3;
      x.as(0, 1);
      told[5]++;
      for (int k = 1; k <= 5; k++) {
        due.is("told(" + k + ")", x.told(k), told[k]);
      }
    }
    for (int i = 0; i < 23; i++) {
      x.tell(0);
    }
    due.is("told(4)", x.told(4), 3);
    for (int k : new int[] {0, 6, -1, MIN, MAX}) {
      due.is("told(" + k + ")", x.told(k), Due.BEYOND);
      told[1]++;
      due.is("told(1), counted, too", x.told(1), told[1]);
    }
    x.image();
    x.let(4);
    x.restore();
    due.is("told(1) behind restore()", x.told(1), told[1] + 1);
  }
}
