import java.util.Arrays;
import java.util.function.Supplier;

/**
 * Every refusal of every act: its ERROR, in the order in which they are asked; told() of that ERROR is one more, and
 * all else answers as it does on a twin that was not asked.
 */
public final class RefusedCallsTest {
  private static final Due due = new Due();
  private static final String[] ANY = {"-2147483648", "2147483647"};

  public static void main(String[] args) {
    halls();
    rays();
    texts();
    foresight();
    days();
    voices();
    sheets();
    moves();
    images();
    waiting();
    told();
    due.end();
  }

  private static void halls() {
    refused("2, hall: ROWS 1 to 5, COLUMNS 1 to 5", RefusedCallsTest::rich, Due.BEYOND,
        "hall 0 1", "hall 1 0", "hall 6 1", "hall 1 6", "hall -1 -1", "hall 0 0", "hall 65536 65536", "hall 5 6", "hall 6 5");
    far("2, hall", "hall", 3, 3);
    refused("3, square: no such SQUARE", RefusedCallsTest::rich, Due.BEYOND, "square -1 10 0", "square 9 10 0", "square 24 10 0", "square 32 0 0");
    refused("3, square: no such KIND, m", RefusedCallsTest::rich, Due.BEYOND, "square 0 -1 0", "square 0 70 0", "square 0 -10 1", "square 0 79 0");
    refused("3, square: no such SLANT", RefusedCallsTest::rich, Due.BEYOND, "square 0 10 -1", "square 0 10 2");
    far("3, square", "square", 0, 10, 0);
    refused("4, ofSquare", RefusedCallsTest::rich, Due.BEYOND, "ofSquare -1 0", "ofSquare 9 0", "ofSquare 0 -1", "ofSquare 0 8", "ofSquare 25 0");
    far("4, ofSquare", "ofSquare", 0, 0);
    refused("5, as: BEYOND, ahead of KIND", RefusedCallsTest::rich, Due.BEYOND, "as -1 0", "as 9 3", "as 0 -1", "as 0 7", "as 5 7");
    refused("5, as: not of that KIND", RefusedCallsTest::rich, Due.KIND,
        "as 0 4", "as 0 5", "as 0 2", "as 0 3", "as 0 6", "as 1 5", "as 2 4", "as 3 2", "as 5 1", "as 6 1", "as 6 3", "as 7 6", "as 7 1");
    far("5, as", "as", 0, 0);
    refused("6, hand: BEYOND", RefusedCallsTest::rich, Due.BEYOND, "hand -1", "hand 9", "hand 25");
    refused("6, hand: it can't be", RefusedCallsTest::rich, Due.STATE, "hand 1", "hand 3", "hand 5", "hand 6", "hand 7");
    far("6, hand", "hand", 0);
  }

  private static void rays() {
    refused("8, let", RefusedCallsTest::rich, Due.BEYOND, "let -1", "let 12", "let 20", "let 100");
    far("8, let", "let", 0);
    refused("9, out", RefusedCallsTest::rich, Due.BEYOND, "out -1 0", "out 12 0", "out 0 -1", "out 0 4", "out 100 0");
    far("9, out", "out", 0, 0);
    refused("10, way: no such WINDOW; i below 0", RefusedCallsTest::rich, Due.BEYOND, "way -1 0", "way 12 0", "way 0 -1", "way 12 -1", "way 12 9999");
    refused("10, way: there is none such", RefusedCallsTest::plain, Due.NONE, "way 0 3", "way 2 3", "way 11 3", "way 0 2147483647");
    refused("10, way: none behind a CURTAIN", RefusedCallsTest::rich, Due.NONE, "way 10 1", "way 10 2");
    refused("11, undo: BEYOND", RefusedCallsTest::rich, Due.BEYOND, "undo -1", "undo 12", "undo 100");
    far("11, undo", "undo", 0);
    refused("11, undo: it would come to a CURTAIN, a SEAT at once", RefusedCallsTest::rich, Due.STATE, "undo 10", "undo 11", "undo 6");
    refused("11, undo: it would come to one behind others", RefusedCallsTest::stopping, Due.STATE, "undo 0", "undo 2");
    refused("11, undo: more than 5000 STEPS", () -> LongHalls.turnedAheadOf5001().hall, Due.STATE, "undo 17");
  }

  private static void texts() {
    refused("12, feed: n 1 to 8", RefusedCallsTest::rich, Due.BEYOND, "feed 1 0", "feed 1 9", "feed 1 -1", "feed 0 64");
    far("12, feed", "feed", -1, 3);
    refused("12, feed: BEYOND ahead of FULL", RefusedCallsTest::fullTape, Due.BEYOND, "feed 1 0", "feed 1 9", "feed 1 2147483647");
    refused("12, feed: FULL", RefusedCallsTest::fullTape, Due.FULL, "feed 1 1", "feed 1 8");
    refused("12, feed: FULL by one byte", RefusedCallsTest::tapeOf45, Due.FULL, "feed 1 6", "feed 1 8");
    refused("13, text: THE TAPE stays", RefusedCallsTest::rich, Due.BEYOND, "text -1", "text 2");
    far("13, text", "text", 0);
    refused("14, law", RefusedCallsTest::rich, Due.BEYOND, "law -1 0 0 0", "law 2 0 0 0");
  }

  private static void foresight() {
    refused("15, round: BEYOND", RefusedCallsTest::rich, Due.BEYOND, "round -1", "round 12");
    far("15, round", "round", 0);
    refused("15, round: not by 400", RefusedCallsTest::roundOf401, Due.NONE, "round 10");
    refused("16, back: BEYOND ahead of STATE", RefusedCallsTest::bare, Due.BEYOND, "back -2", "back 3");
    refused("16, back: BEYOND ahead of NONE", RefusedCallsTest::fourBack, Due.BEYOND, "back -2", "back 3");
    far("16, back", "back", 0);
    refused("16, back: there is no IMAGE", RefusedCallsTest::bare, Due.STATE, "back -1", "back 0", "back 2");
    refused("16, back: one of another HALL", RefusedCallsTest::turnedHall, Due.STATE, "back -1", "back 0", "back 2");
    refused("16, back: not by 3", RefusedCallsTest::fourBack, Due.NONE, "back -1", "back 0", "back 1", "back 2");
    refused("16, back: there is no such RAY", RefusedCallsTest::oneBack, Due.NONE, "back 1", "back 2");
    refused("17, throne: BEYOND ahead of NONE", RefusedCallsTest::stopping, Due.BEYOND,
        "throne -1 0 0", "throne 4 0 0", "throne 1 -1 0", "throne 1 10 0", "throne 1 3 -1", "throne 1 3 3");
    far("17, throne", "throne", 0, 0, 0);
    refused("17, throne: not by 2", RefusedCallsTest::plain, Due.NONE, "throne 0 1 0", "throne 0 1 1", "throne 0 1 2");
    refused("18, had: more than 200", RefusedCallsTest::standings216, Due.FULL, "had");
    refused("19, odds: mask, window, out, part", RefusedCallsTest::rich, Due.BEYOND, "odds -1 0 0 0", "odds 512 0 0 0", "odds 1 -1 0 0",
        "odds 1 12 0 0", "odds 1 0 -1 0", "odds 1 0 12 0", "odds 1 0 99 0", "odds 1 0 101 0", "odds 1 0 0 -1", "odds 1 0 0 2", "odds 1 100 0 0");
    far("19, odds", "odds", 1, 0, 0, 0);
    refused("20, fits: BEYOND ahead of NONE", RefusedCallsTest::rich, Due.BEYOND, "fits -1 3", "fits 512 3", "fits 1 -1", "fits 1 4");
    far("20, fits", "fits", 1, 0);
    refused("20, fits: the SHEET is missing", RefusedCallsTest::rich, Due.NONE, "fits 1 3", "fits 0 3");
    refused("20, fits: a number is no WINDOW, or OUT", RefusedCallsTest::rich, Due.NONE, "fits 1 2", "fits 0 2");
    refused("21, tells: BEYOND ahead of NONE", RefusedCallsTest::rich, Due.BEYOND,
        "tells -1 3 0", "tells 512 3 0", "tells 1 -1 0", "tells 1 4 0", "tells 1 3 -1", "tells 1 3 2");
    far("21, tells", "tells", 1, 0, 0);
    refused("21, tells: likewise", RefusedCallsTest::rich, Due.NONE, "tells 1 3 0", "tells 1 3 1", "tells 1 2 0", "tells 1 2 1");
    refused("21, tells: nothing FITS", RefusedCallsTest::unfit, Due.NONE, "tells 1 0 0", "tells 1 0 1", "tells 0 0 0");
    refused("22, longest", RefusedCallsTest::rich, Due.BEYOND, "longest -1", "longest 2");
    far("22, longest", "longest", 0);
  }

  private static void days() {
    refused("23, days: 1 to 200", RefusedCallsTest::rich, Due.BEYOND, "days 0", "days -1", "days 201");
    far("23, days", "days", 1);
    refused("23, days: BEYOND ahead of STATE", RefusedCallsTest::day9900, Due.BEYOND, "days 0", "days 201", "days 2147483647");
    refused("23, days: DAY would be above 9999", RefusedCallsTest::day9900, Due.STATE, "days 100", "days 101", "days 200");
  }

  private static void voices() {
    refused("25, voice: THE TRACE stays", RefusedCallsTest::rich, Due.BEYOND, "voice -1 0 1", "voice 9 0 1", "voice 0 -1 1", "voice 0 4 1");
    refused("26, trace: there is none such", RefusedCallsTest::rich, Due.NONE, "trace -1", "trace 10", "trace 12", "trace 39", "trace 40", "trace 2147483647", "trace -2147483648");
    refused("26, trace: none at first", RefusedCallsTest::bare, Due.NONE, "trace 0", "trace -1");
  }

  private static void sheets() {
    refused("27, sheet: BEYOND ahead of STATE", RefusedCallsTest::rich, Due.BEYOND, "sheet -1 8 1", "sheet 4 8 1", "sheet 4 8 -1",
        "sheet -1 8 -1", "sheet 4 0 0", "sheet 0 7 1", "sheet 0 -8 1", "sheet 0 64 1", "sheet 0 7 -1", "sheet 0 1 41", "sheet 0 24 1");
    refused("27, sheet: n is below 0", RefusedCallsTest::rich, Due.STATE,
        "sheet 0 8 -1", "sheet 0 16 -1", "sheet 3 32 -1", "sheet 0 8 -2147483648");
    refused("27, sheet: n is above 40", RefusedCallsTest::rich, Due.BEYOND, "sheet 0 8 41", "sheet 3 32 41", "sheet 0 16 2147483647");
    refused("28, put: no such SHEET, ahead of NONE", RefusedCallsTest::rich, Due.BEYOND, "put -1 0 1", "put 4 0 1", "put 4 -1 1",
        "put 2147483647 0 1", "put -2147483648 0 1");
    refused("28, put: it is missing, ahead of BEYOND", RefusedCallsTest::rich, Due.NONE, "put 3 0 1", "put 3 -1 1", "put 3 40 1");
    refused("28, put: no such number", RefusedCallsTest::rich, Due.BEYOND,
        "put 0 -1 1", "put 0 4 1", "put 0 40 1", "put 1 2 1", "put 0 2147483647 1", "put 0 -2147483648 1");
    refused("30, lets: no such SHEET", RefusedCallsTest::rich, Due.BEYOND, "lets -1", "lets 4");
    refused("30, lets: it is missing", RefusedCallsTest::rich, Due.NONE, "lets 3");
    refused("31, judge: no such SHEET", RefusedCallsTest::rich, Due.BEYOND, "judge -1", "judge 4");
    refused("31, judge: it is missing", RefusedCallsTest::rich, Due.NONE, "judge 3");
    far("30, lets", "lets", 0);
    far("31, judge", "judge", 0);
  }

  private static void moves() {
    refused("29, move: no such SHEET, ahead of NONE", RefusedCallsTest::rich, Due.BEYOND,
        "move -1 0 0 0 1", "move 4 0 0 0 1", "move 0 0 -1 0 1", "move 0 0 4 0 1", "move 3 0 4 0 1", "move 4 0 3 0 1", "move 4 -1 0 0 1");
    refused("29, move: one is missing, ahead of KIND", RefusedCallsTest::rich, Due.NONE,
        "move 3 0 0 0 1", "move 0 0 3 0 1", "move 3 0 3 0 0", "move 3 -1 0 0 1", "move 0 0 3 0 -1");
    refused("29, move: unlike bits, ahead of BEYOND", RefusedCallsTest::rich, Due.KIND,
        "move 0 0 1 0 1", "move 1 0 0 0 1", "move 0 -1 1 0 1", "move 0 0 1 0 -1", "move 0 0 1 9 1", "move 0 0 1 0 0");
    refused("29, move: n, i, or j is below 0", RefusedCallsTest::rich, Due.BEYOND, "move 0 0 2 0 -1", "move 0 -1 2 0 1", "move 0 0 2 -1 1",
        "move 0 -1 2 0 0", "move 0 0 2 -1 0", "move 0 0 2 0 -2147483648", "move 0 -2147483648 2 0 1", "move 0 0 2 -2147483648 1");
    refused("29, move: they don't stand there", RefusedCallsTest::rich, Due.BEYOND, "move 0 0 2 0 4", "move 0 2 2 0 3", "move 0 0 2 1 3",
        "move 0 3 2 0 2", "move 0 4 2 0 1", "move 0 0 2 3 1", "move 0 0 0 1 4", "move 0 0 0 0 5", "move 2 0 0 2 3",
        "move 0 2147483647 2 0 1", "move 0 0 2 2147483647 1", "move 0 1 2 1 2147483647", "move 0 2147483647 2 2147483647 2147483647");
  }

  private static void images() {
    refused("33, restore: there is none", RefusedCallsTest::bare, Due.NONE, "restore");
    refused("36, count", RefusedCallsTest::rich, Due.BEYOND, "count -1", "count 11");
    far("36, count", "count", 0);
  }

  private static void waiting() {
    refused("34, tell: 20 wait", RefusedCallsTest::twentyWait, Due.FULL, "tell 0", "tell 3", "tell -2147483648");
  }

  private static void told() {
    refused("37, told: another k (counted, too)", RefusedCallsTest::rich, Due.BEYOND, "told 0", "told 6", "told -1");
    far("37, told", "told", 1);
  }

  // ---- how it is asked

  private static void refused(String promise, Supplier<TurnedBeam> made, int error, String... calls) {
    due.part("promise " + promise);
    for (String call : calls) {
      TurnedBeam asked = made.get();
      TurnedBeam twin = made.get();
      int k = -1000000000 - error;
      due.is(call, answer(asked, call), error);
      for (int i = 1; i <= 5; i++) {
        due.is("told(" + i + ") behind " + call, asked.told(i), twin.told(i) + (i == k ? 1 : 0));
      }
      sameReads(call, asked, twin);
      sameTape(call, asked, twin);
      due.is("check() behind " + call, asked.check(), twin.check());
      sameSheets(call, asked, twin);
      due.is("restore() behind " + call, asked.restore(), twin.restore());
      sameReads("restore() and " + call, asked, twin);
      due.is("image() behind " + call, asked.image(), twin.image());
    }
  }

  /** Each argument for itself, as far off as it can be. */
  private static void far(String promise, String name, long... ordinary) {
    int first = name.equals("feed") ? 1 : 0;
    for (int i = first; i < ordinary.length; i++) {
      for (String any : ANY) {
        StringBuilder call = new StringBuilder(name);
        for (int j = 0; j < ordinary.length; j++) {
          call.append(' ').append(j == i ? any : "" + ordinary[j]);
        }
        refused(promise + ": far off", RefusedCallsTest::rich, Due.BEYOND, call.toString());
      }
    }
  }

  private static long answer(TurnedBeam x, String call) {
    String[] words = call.split(" ");
    long[] numbers = Arrays.stream(words).skip(1).mapToLong(Long::parseLong).toArray();
    return new Calls(x).answer(words[0], numbers);
  }

  private static void sameReads(String call, TurnedBeam asked, TurnedBeam twin) {
    for (int i = 0; i <= 10; i++) {
      due.is("count(" + i + ") behind " + call, asked.count(i), twin.count(i));
    }
    for (int i = 0; i < twin.count(0) * twin.count(1); i++) {
      for (int what = 0; what <= 7; what++) {
        due.is("ofSquare(" + i + ", " + what + ") behind " + call, asked.ofSquare(i, what), twin.ofSquare(i, what));
      }
    }
    for (int i = 0; i < twin.count(2); i++) {
      due.is("out(" + i + ", 0) behind " + call, asked.out(i, 0), twin.out(i, 0));
    }
    for (int i = 0; i < twin.count(9); i++) {
      due.is("trace(" + i + ") behind " + call, asked.trace(i), twin.trace(i));
    }
    due.is("slants() behind " + call, asked.slants(), twin.slants());
    due.is("law(0, ..) behind " + call, asked.law(0, 1, 2, 3), twin.law(0, 1, 2, 3));
    due.is("law(1, ..) behind " + call, asked.law(1, 1, 2, 3), twin.law(1, 1, 2, 3));
  }

  private static void sameTape(String call, TurnedBeam asked, TurnedBeam twin) {
    due.is("text(0) behind " + call, asked.text(0), twin.text(0));
    due.is("law(0, ..) by THE TAPE behind " + call, asked.law(0, 1, 2, 3), twin.law(0, 1, 2, 3));
  }

  /** By a BET that tells the windows: numbers that are none are told by where lets() ends. */
  private static void sameSheets(String call, TurnedBeam asked, TurnedBeam twin) {
    for (int sheet = 0; sheet < 4; sheet++) {
      due.is("judge(" + sheet + ") behind " + call, asked.judge(sheet), twin.judge(sheet));
      due.is("fits(0, " + sheet + ") behind " + call, asked.fits(0, sheet), twin.fits(0, sheet));
      due.is("lets(" + sheet + ") behind " + call, asked.lets(sheet), twin.lets(sheet));
      due.is("count(5) behind " + call, asked.count(5), twin.count(5));
      due.is("count(4) behind " + call, asked.count(4), twin.count(4));
    }
  }

  // ---- what it is asked of

  private static TurnedBeam bare() {
    return new TurnedBeam();
  }

  private static TurnedBeam plain() {
    TurnedBeam x = new TurnedBeam();
    x.hall(3, 3);
    return x;
  }

  /** Something of all: each KIND, both texts, THE TAPE, sheets, numbers that wait, THE TRACE, an IMAGE and another standing. */
  private static TurnedBeam rich() {
    TurnedBeam x = new TurnedBeam();
    x.hall(3, 3);
    int[] kms = {14, 41, 52, 30, 10, 7, 63, 25, 51};
    for (int i = 0; i < kms.length; i++) {
      x.square(i, kms[i], i % 2);
    }
    Due.text(x, 0, "r*5+c+m");
    Due.text(x, 1, "i*7+o-t");
    x.seed(77);
    x.days(5);
    x.tell(4);
    Due.feed(x, "m*3");
    x.image();
    x.days(3);
    x.let(1);
    x.tell(9);
    Due.feed(x, "+c");
    Due.sheet(x, 0, 8, 2, 0, 7, 1);
    Due.sheet(x, 1, 16, 5, 9);
    Due.sheet(x, 2, 8, 1, 3, 12);
    x.put(2, 1, 99);
    x.voice(6, 3, 5);
    return x;
  }

  private static TurnedBeam tapeOf45() {
    TurnedBeam x = plain();
    Due.feed(x, "1+2+3+4+5+6+7+8+9+1+2+3+4+5+6+7+8+9+1+2+3+4+m");
    return x;
  }

  private static TurnedBeam fullTape() {
    TurnedBeam x = tapeOf45();
    Due.feed(x, "+5+21");
    return x;
  }

  private static TurnedBeam stopping() {
    TurnedBeam x = Due.hall("/#\\.");
    x.let(3);
    x.lets(0);
    x.image();
    return x;
  }

  private static TurnedBeam turnedHall() {
    TurnedBeam x = Due.hall("/..", "..l");
    x.image();
    x.hall(3, 2);
    return x;
  }

  private static TurnedBeam oneBack() {
    TurnedBeam x = Due.hall("/#/#/");
    x.image();
    x.let(4);
    return x;
  }

  private static TurnedBeam fourBack() {
    TurnedBeam x = Due.hall("/#/#/", "#####", "/#/#/");
    x.image();
    x.let(0);
    x.let(2);
    x.let(4);
    x.let(8);
    return x;
  }

  private static TurnedBeam roundOf401() {
    return Due.built(4, 3, "114154455515", "022001101201", "010110111001");
  }

  private static TurnedBeam standings216() {
    return Due.built(3, 2, "505053", "101011", "111011");
  }

  private static TurnedBeam unfit() {
    TurnedBeam x = Due.hall("/.");
    Due.sheet(x, 0, 8, 0, 1);
    return x;
  }

  private static TurnedBeam day9900() {
    TurnedBeam x = Due.hall("/.");
    for (int i = 0; i < 49; i++) {
      x.days(200);
    }
    x.days(100);
    return x;
  }

  private static TurnedBeam twentyWait() {
    TurnedBeam x = plain();
    for (int i = 0; i < 20; i++) {
      x.tell(i < 12 ? x.out(i, 0) : 5);
    }
    return x;
  }
}
