/** Promises 23 to 37: days, draws, voices, sheets, images, what is told. */
public final class DayPromisesTest {
  private static final Due due = new Due();
  private static final int MIN = Integer.MIN_VALUE;
  private static final int MAX = Integer.MAX_VALUE;

  public static void main(String[] args) {
    days();
    daysEdges();
    seed();
    voices();
    voiceEdges();
    sheet();
    put();
    move();
    moveNot();
    lets();
    judge();
    image();
    imageKeeps();
    tell();
    check();
    count();
    told();
    due.end();
  }

  private static void days() {
    due.part("promise 23");
    TurnedBeam x = Due.hall("/l");
    Due.text(x, 1, "i+o*10+t");
    due.is("days(1)", x.days(1), 38);
    due.is("count(10)", x.count(10), -1770082073);
    due.is("slants()", x.slants(), 1);
    due.is("days(2)", x.days(2), 76);
    due.is("count(10) then", x.count(10), -1778682749);
    due.is("slants() then", x.slants(), 0);
    due.is("TIME", x.ofSquare(1, 3), 0);
    due.is("count(4)", x.count(4), 4);
    due.is("count(6)", x.count(6), 3);
    TurnedBeam stuck = Due.hall("s.");
    due.is("days(9) without hands", stuck.days(9), 0);
    TurnedBeam costly = Due.hall("/");
    due.is("days(3) of hands", costly.days(3), -15);
    due.is("days(0)", x.days(0), Due.BEYOND);
    due.is("days(-1)", x.days(-1), Due.BEYOND);
    due.is("days(201)", x.days(201), Due.BEYOND);
    due.is("days(far)", x.days(MAX), Due.BEYOND);
    due.is("count(6) behind BEYOND", x.count(6), 3);
    due.is("count(10) behind BEYOND", x.count(10), -1778682749);
  }

  private static void daysEdges() {
    due.part("promise 23, the last day; LIT");
    TurnedBeam x = new TurnedBeam();
    for (int i = 0; i < 49; i++) {
      x.days(200);
    }
    due.is("count(4)", x.count(4), 9800);
    due.is("days(200)", x.days(200), Due.STATE);
    due.is("days(201) ahead of STATE", x.days(201), Due.BEYOND);
    due.is("count(6)", x.count(6), 9800);
    due.is("days(199)", x.days(199), 0);
    due.is("count(6) at the last", x.count(6), 9999);
    int z = x.count(10);
    due.is("days(1)", x.days(1), Due.STATE);
    due.is("count(10)", x.count(10), z);
    due.is("LIT", x.ofSquare(0, 4), 9999);
    x.let(0);
    due.is("LIT, no more is counted", x.ofSquare(0, 4), 9999);
    due.is("undo(2)", x.undo(2), 0);
    due.is("LIT then", x.ofSquare(0, 4), 9998);
  }

  private static void seed() {
    due.part("promise 24");
    TurnedBeam x = new TurnedBeam();
    due.is("seed(MIN)", x.seed(MIN), 1);
    due.is("seed(-7)", x.seed(-7), MIN);
    due.is("told(1)", x.told(1), 0);
    x.seed(5);
    x.days(1);
    int z = 5 * 1103515245 + 12345;
    z = z * 1103515245 + 12345;
    due.is("seed(0)", x.seed(0), z);
    x.days(1);
    due.is("count(10)", x.count(10), 12345 * 1103515245 + 12345);
  }

  private static void voiceIs(TurnedBeam x, int act, int want, int... bodies) {
    due.is("voice(2, " + act + ", 5) of " + x.ofSquare(2, 0), x.voice(2, act, 5), want);
    due.is("count(9)", x.count(9), bodies.length);
    for (int i = 0; i < bodies.length; i++) {
      due.is("trace(" + i + ") of act " + act, x.trace(i), bodies[i]);
    }
    due.is("trace behind the last", x.trace(bodies.length), Due.NONE);
  }

  private static TurnedBeam voiced(int kind) {
    TurnedBeam x = new TurnedBeam();
    x.hall(1, 3);
    x.square(2, 10 * kind + 3, 0);
    return x;
  }

  private static void voices() {
    due.part("promises 25 and 26");
    voiceIs(voiced(0), 0, 7, 10);
    voiceIs(voiced(0), 1, 14, 11, 10);
    voiceIs(voiced(0), 2, 2, 12);
    voiceIs(voiced(0), 3, 12, 13, 11, 10, 12);
    voiceIs(voiced(1), 0, 7, 10);
    voiceIs(voiced(1), 1, 16, 20, 11, 10, 12);
    voiceIs(voiced(1), 2, 2, 12);
    voiceIs(voiced(1), 3, 18, 13, 20, 11, 10, 12, 12);
    voiceIs(voiced(2), 0, 21, 30, 10);
    voiceIs(voiced(2), 1, 42, 11, 30, 10);
    voiceIs(voiced(2), 2, 2, 12);
    voiceIs(voiced(2), 3, 40, 13, 11, 30, 10, 12);
    voiceIs(voiced(3), 0, 7, 10);
    voiceIs(voiced(3), 1, 14, 11, 10);
    voiceIs(voiced(3), 2, -2, 40, 12);
    voiceIs(voiced(3), 3, -16, 13, 11, 10, 40, 12);
    voiceIs(voiced(4), 0, 7, 10);
    voiceIs(voiced(4), 1, 18, 50, 20, 11, 10, 12);
    voiceIs(voiced(4), 2, 2, 12);
    voiceIs(voiced(4), 3, 16, 13, 50, 20, 11, 10, 12, 12);
    voiceIs(voiced(5), 0, 7, 10);
    voiceIs(voiced(5), 1, 16, 20, 11, 10, 12);
    voiceIs(voiced(5), 2, 2, 12);
    voiceIs(voiced(5), 3, 14, 60, 13, 20, 11, 10, 12, 12, 10);
    voiceIs(voiced(6), 0, 21, 30, 10);
    voiceIs(voiced(6), 1, 42, 11, 30, 10);
    voiceIs(voiced(6), 2, 0, 70, 12);
    voiceIs(voiced(6), 3, 0, 71, 11, 30, 10, 13, 11, 30, 10, 70, 12);
  }

  private static void voiceEdges() {
    due.part("promises 25 and 26, edges");
    TurnedBeam x = voiced(2);
    due.is("voice(2, 0, MAX)", x.voice(2, 0, MAX), (MAX + 2) * 3);
    due.is("voice(2, 2, MIN)", x.voice(2, 2, MIN), MAX - 2);
    due.is("voice(2, 0, low)", x.voice(0, 0, -1000000001), -1000000001);
    due.is("told(1)", x.told(1), 0);
    x.voice(2, 1, 0);
    due.is("voice(3, 0, 0)", x.voice(3, 0, 0), Due.BEYOND);
    due.is("voice(-1, 0, 0)", x.voice(-1, 0, 0), Due.BEYOND);
    due.is("voice(0, 4, 0)", x.voice(0, 4, 0), Due.BEYOND);
    due.is("voice(0, -1, 0)", x.voice(0, -1, 0), Due.BEYOND);
    due.is("THE TRACE stays", x.count(9), 3);
    due.is("trace(-1)", x.trace(-1), Due.NONE);
    due.is("trace(3)", x.trace(3), Due.NONE);
    due.is("trace(far)", x.trace(MAX), Due.NONE);
    due.is("trace(2)", x.trace(2), 10);
  }

  private static void sheet() {
    due.part("promise 27");
    TurnedBeam x = new TurnedBeam();
    for (int bits : new int[] {8, 16, 32}) {
      due.is("sheet(3, " + bits + ", 40)", x.sheet(3, bits, 40), 1);
      due.is("put(3, 39, 1)", x.put(3, 39, 1), 1);
      due.is("put(3, 40, 1)", x.put(3, 40, 1), Due.BEYOND);
      due.is("sheet(3, " + bits + ", 41)", x.sheet(3, bits, 41), Due.BEYOND);
      due.is("sheet(3, " + bits + ", -1)", x.sheet(3, bits, -1), Due.STATE);
      due.is("put(3, 39, 0) behind ERRORS", x.put(3, 39, 0), 1);
    }
    due.is("sheet(3, 0, -1)", x.sheet(3, 0, -1), 1);
    due.is("put(3, 0, 0) of a missing one", x.put(3, 0, 0), Due.NONE);
    due.is("sheet(3, 0, 99)", x.sheet(3, 0, 99), 1);
    int[][] beyond = {{4, 8, 1}, {-1, 8, 1}, {0, 1, 1}, {0, 64, 1}, {0, -8, 1}, {0, 7, -1}, {4, 8, -1}, {4, 0, 0}, {0, 24, 0}, {0, 8, MAX}};
    for (int[] b : beyond) {
      due.is("sheet(" + b[0] + ", " + b[1] + ", " + b[2] + ")", x.sheet(b[0], b[1], b[2]), Due.BEYOND);
    }
    due.is("sheet(0, 8, MIN)", x.sheet(0, 8, MIN), Due.STATE);
    Due.sheet(x, 0, 8, 1);
    due.is("judge(0)", x.judge(0), 0);
    x.sheet(0, 8, 1);
    due.is("judge(0) of one made again", x.judge(0), -1);
    due.is("sheet(0, 16, 0)", x.sheet(0, 16, 0), 1);
    due.is("lets(0) of an empty one", x.lets(0), 0);
  }

  private static void put() {
    due.part("promise 28");
    TurnedBeam x = new TurnedBeam();
    int[] given = {0x100, 0x101, 0x10000, 0x10001, 1, -255, 0xFFFF0000, -65535, 256 + 100};
    int[] of8 = {-1, 0, -1, 0, 0, 0, -1, 0, 0};
    int[] of16 = {0, 0, -1, 0, 0, 0, -1, 0, 0};
    int[] slant8 = {0, 1, 0, 1, 1, 1, 0, 1, 100};
    x.hall(1, 1);
    for (int i = 0; i < given.length; i++) {
      Due.sheet(x, 0, 8, given[i]);
      Due.sheet(x, 1, 16, given[i]);
      Due.sheet(x, 2, 32, given[i]);
      due.is("judge(0) of " + given[i], x.judge(0), of8[i]);
      due.is("judge(1) of " + given[i], x.judge(1), of16[i]);
      due.is("judge(2) of " + given[i], x.judge(2), 0);
      x.square(0, 0, 1);
      due.is("judge(0) with a slant, of " + given[i], x.judge(0), slant8[i] == 1 ? -1 : 0);
      x.square(0, 0, 0);
    }
    Due.sheet(x, 0, 8, 7, 7);
    due.is("put(0, 2, 0)", x.put(0, 2, 0), Due.BEYOND);
    due.is("put(0, -1, 0)", x.put(0, -1, 0), Due.BEYOND);
    due.is("put(4, 0, 0)", x.put(4, 0, 0), Due.BEYOND);
    due.is("put(-1, 0, 0)", x.put(-1, 0, 0), Due.BEYOND);
    due.is("put(3, 0, 0)", x.put(3, 0, 0), Due.NONE);
    due.is("put(3, -1, 0), NONE first", x.put(3, -1, 0), Due.NONE);
  }

  /** The numbers of a sheet, read by what lets() and judge() tell of them: as slants of one row. */
  private static void slantsAre(TurnedBeam x, int sheet, int... want) {
    TurnedBeam y = x;
    y.hall(1, want.length);
    for (int i = 0; i < want.length; i++) {
      y.square(i, 0, want[i]);
    }
    due.is("judge(" + sheet + ")", y.judge(sheet), -1);
  }

  private static void move() {
    due.part("promise 29");
    TurnedBeam x = new TurnedBeam();
    Due.sheet(x, 0, 8, 1, 0, 1, 1, 0);
    Due.sheet(x, 1, 8, 0, 0, 0, 0);
    due.is("move(0, 0, 1, 1, 3)", x.move(0, 0, 1, 1, 3), 3);
    slantsAre(x, 1, 0, 1, 0, 1);
    slantsAre(x, 0, 1, 0, 1, 1, 0);
    due.is("move(0, 0, 0, 1, 4)", x.move(0, 0, 0, 1, 4), 4);
    slantsAre(x, 0, 1, 1, 0, 1, 1);
    due.is("move(0, 2, 0, 0, 3)", x.move(0, 2, 0, 0, 3), 3);
    slantsAre(x, 0, 0, 1, 1, 1, 1);
    due.is("move(0, 5, 1, 4, 0)", x.move(0, 5, 1, 4, 0), 0);
    due.is("move(0, 0, 0, 0, 5)", x.move(0, 0, 0, 0, 5), 5);
    slantsAre(x, 0, 0, 1, 1, 1, 1);
  }

  private static void moveNot() {
    due.part("promise 29, not moved");
    TurnedBeam x = new TurnedBeam();
    x.sheet(0, 8, 5);
    x.sheet(1, 8, 4);
    x.sheet(2, 16, 4);
    int[][] calls = {{0, 0, 4, 0, 1}, {4, 0, 0, 0, 1}, {-1, 0, 0, 0, 1}, {0, 0, -1, 0, 1}, {0, 0, 3, 0, 1}, {3, 0, 0, 0, 1},
        {3, 0, 4, 0, 1}, {0, 0, 2, 0, 1}, {2, -1, 0, 0, 1}, {3, -1, 0, 0, -1}, {0, -1, 1, 0, 1}, {0, 0, 1, -1, 1},
        {0, 0, 1, 0, -1}, {0, 1, 1, 0, 5}, {0, 0, 1, 0, 5}, {0, 0, 1, 1, 4}, {0, 6, 1, 0, 0}, {0, 0, 1, 5, 0},
        {0, MAX, 1, 0, MAX}, {0, 1, 1, MAX, MAX}, {0, 1, 1, 1, MAX}};
    int[] want = {Due.BEYOND, Due.BEYOND, Due.BEYOND, Due.BEYOND, Due.NONE, Due.NONE,
        Due.BEYOND, Due.KIND, Due.KIND, Due.NONE, Due.BEYOND, Due.BEYOND,
        Due.BEYOND, Due.BEYOND, Due.BEYOND, Due.BEYOND, Due.BEYOND, Due.BEYOND,
        Due.BEYOND, Due.BEYOND, Due.BEYOND};
    for (int i = 0; i < calls.length; i++) {
      int[] c = calls[i];
      due.is("move of row " + i, x.move(c[0], c[1], c[2], c[3], c[4]), want[i]);
    }
  }

  private static void lets() {
    due.part("promise 30");
    TurnedBeam x = Due.hall("/.", "\\.");
    Due.text(x, 1, "i*10+o");
    Due.sheet(x, 0, 8, 2, 2, 1, 8, 0);
    due.is("lets(0)", x.lets(0), 3);
    due.is("count(5)", x.count(5), 23 + 20 + 15);
    due.is("count(4)", x.count(4), 8);
    due.is("told(1)", x.told(1), 0);
    Due.sheet(x, 0, 8, 255);
    due.is("lets(0) of 255", x.lets(0), 0);
    Due.sheet(x, 0, 32, 7, 6, -1, 6);
    due.is("lets(0) up to -1", x.lets(0), 2);
    Due.sheet(x, 0, 16, 1, 1);
    due.is("lets(0) of all", x.lets(0), 2);
    due.is("lets(4)", x.lets(4), Due.BEYOND);
    due.is("lets(-1)", x.lets(-1), Due.BEYOND);
    due.is("lets(1)", x.lets(1), Due.NONE);
  }

  private static void judge() {
    due.part("promise 31");
    TurnedBeam x = Due.hall("\\.", "/\\");
    int[][] sheets = {{1, 0, 0, 1}, {0, 0, 0, 1}, {1, 1, 0, 1}, {1, 0, 0, 0}, {1, 0, 0}, {1, 0, 0, 1, 0}, {}, {1, 0, 2, 1}, {1, 1, 0}};
    int[] want = {-1, 0, 1, 3, 3, 4, 0, 2, 1};
    for (int i = 0; i < sheets.length; i++) {
      Due.sheet(x, 3, 16, sheets[i]);
      due.is("judge(3) of row " + i, x.judge(3), want[i]);
    }
    due.is("judge(4)", x.judge(4), Due.BEYOND);
    due.is("judge(-1)", x.judge(-1), Due.BEYOND);
    due.is("judge(0)", x.judge(0), Due.NONE);
  }

  private static void image() {
    due.part("promises 32 and 33");
    TurnedBeam x = Due.hall("/l");
    due.is("restore() without an IMAGE", x.restore(), Due.NONE);
    x.days(3);
    due.is("image()", x.image(), 1);
    x.days(4);
    due.is("restore()", x.restore(), 3);
    due.is("count(6)", x.count(6), 3);
    x.days(2);
    due.is("image() again", x.image(), 2);
    x.days(1);
    due.is("restore() of the later one", x.restore(), 5);
    due.is("restore() once more", x.restore(), 5);
    due.is("image() counts on", x.image(), 3);
  }

  private static void imageKeeps() {
    due.part("promises 32 and 33, what is kept");
    TurnedBeam x = Due.hall("/l");
    Due.text(x, 0, "7");
    Due.text(x, 1, "o");
    x.square(1, 57, 0);
    x.let(2);
    x.seed(77);
    x.tell(11);
    Due.feed(x, "1+c");
    Due.sheet(x, 0, 8, 1, 1);
    x.voice(0, 0, 0);
    int takings = x.count(5);
    x.image();
    x.hall(3, 3);
    Due.text(x, 0, "50");
    Due.text(x, 1, "60");
    x.square(0, 36, 1);
    x.let(2);
    x.seed(78);
    x.check();
    x.tell(9);
    x.tell(8);
    Due.feed(x, "1+2");
    x.sheet(0, 0, 0);
    x.voice(0, 1, 0);
    x.days(300);
    due.is("restore()", x.restore(), 0);
    int[] counts = {1, 2, 6, 2, 1, takings, 0, 3, 1, 2, 77};
    for (int i = 0; i < counts.length; i++) {
      due.is("count(" + i + ")", x.count(i), counts[i]);
    }
    int[] of = {5, 7, 0, 1, 1, 7, 1, 0};
    for (int i = 0; i < of.length; i++) {
      due.is("ofSquare(1, " + i + ")", x.ofSquare(1, i), of[i]);
    }
    due.is("law(1, 1, 2, 3)", x.law(1, 1, 2, 3), 2);
    due.is("told(1)", x.told(1), 1);
    due.is("lets(0)", x.lets(0), Due.NONE);
    due.is("text(0) of the tape kept", x.text(0), 1);
    due.is("law(0, 1, 2, 3)", x.law(0, 1, 2, 3), 3);
    due.is("check() of 11", x.check(), 1);
    x.restore();
    due.is("count(7) of the IMAGE, which stays", x.count(7), 3);
    due.is("law(0, ..) of the IMAGE, which stays", x.law(0, 1, 2, 3), 7);
  }

  private static void tell() {
    due.part("promise 34");
    TurnedBeam x = new TurnedBeam();
    for (int i = 1; i <= 20; i++) {
      due.is("tell(far)", x.tell(i % 2 == 0 ? MIN : MAX), i);
    }
    due.is("tell(0)", x.tell(0), Due.FULL);
    due.is("count(8)", x.count(8), 20);
    due.is("check()", x.check(), 1);
    due.is("count(8) then", x.count(8), 0);
    due.is("tell(0) then", x.tell(0), 1);
  }

  private static void checkIs(TurnedBeam x, int want, int... numbers) {
    for (int n : numbers) {
      x.tell(n);
    }
    due.is("check() of " + java.util.Arrays.toString(numbers), x.check(), want);
    due.is("count(8)", x.count(8), 0);
  }

  private static void check() {
    due.part("promise 35");
    TurnedBeam x = Due.hall("/#");
    checkIs(x, 0);
    checkIs(x, 0, 5);
    checkIs(x, 0, 5, 100, 100, 100, 100, 0);
    checkIs(x, 7, 5, 100, 100, 100, 100, 0, 0);
    checkIs(x, 1, 0, 100, 100);
    checkIs(x, 3, 5, 100, 99);
    checkIs(x, 6, 5, 100, 100, 100, 100, 1);
    due.is("slants() as before", x.slants(), 0);
    due.is("count(4) as before", x.count(4), 0);
    due.is("count(5) as before", x.count(5), 0);
    TurnedBeam y = Due.hall("l");
    y.let(0);
    checkIs(y, 0, 3, 2, 1, 0);
    due.is("TIME as before", y.ofSquare(0, 3), 1);
    TurnedBeam z = new TurnedBeam();
    z.hall(5, 5);
    checkIs(z, 0, 10, 11, 12, 13, 14, 15, 16, 17, 18, 19, 0, 1, 2, 3, 4, 5, 6, 7, 8, 9);
    checkIs(z, 20, 10, 11, 12, 13, 14, 15, 16, 17, 18, 19, 0, 1, 2, 3, 4, 5, 6, 7, 8, 8);
  }

  private static void count() {
    due.part("promise 36");
    TurnedBeam x = Due.hall("/lS", "t#x");
    Due.text(x, 1, "17");
    x.let(3);
    Due.feed(x, "12345");
    x.tell(1);
    x.tell(2);
    x.voice(1, 3, 1);
    x.seed(-1000000005);
    int[] counts = {2, 3, 10, 3, 1, 17, 0, 5, 2, 8, -1000000005};
    for (int i = 0; i < counts.length; i++) {
      due.is("count(" + i + ")", x.count(i), counts[i]);
    }
    due.is("told(1)", x.told(1), 0);
    due.is("told(5)", x.told(5), 0);
    due.is("count(11)", x.count(11), Due.BEYOND);
    due.is("count(-1)", x.count(-1), Due.BEYOND);
    due.is("told(1) then", x.told(1), 2);
  }

  private static void told() {
    due.part("promise 37");
    TurnedBeam x = new TurnedBeam();
    x.let(9);
    x.trace(0);
    x.restore();
    x.hand(0);
    x.as(0, 3);
    x.square(0, 30, 0);
    x.undo(0);
    x.undo(1);
    for (int i = 0; i < 25; i++) {
      x.tell(0);
    }
    int[] want = {1, 2, 3, 5, 1};
    for (int k = 1; k <= 5; k++) {
      due.is("told(" + k + ")", x.told(k), want[k - 1]);
    }
    due.is("told(0)", x.told(0), Due.BEYOND);
    due.is("told(6)", x.told(6), Due.BEYOND);
    due.is("told(-1)", x.told(-1), Due.BEYOND);
    due.is("told(far)", x.told(MIN), Due.BEYOND);
    due.is("told(1), those counted", x.told(1), 5);
    x.odds(-1, 0, 0, 0);
    due.is("told(1), of a long", x.told(1), 6);
  }
}
