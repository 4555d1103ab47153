/** Promises 12 to 14: the tape, texts, laws. */
public final class TextPromisesTest {
  private static final Due due = new Due();
  private static final int MIN = Integer.MIN_VALUE;
  private static final int MAX = Integer.MAX_VALUE;

  public static void main(String[] args) {
    feed();
    feedOrder();
    goodTexts();
    faults();
    faultKeepsText();
    law();
    values();
    held();
    due.end();
  }

  private static void feed() {
    due.part("promise 12");
    TurnedBeam x = new TurnedBeam();
    due.is("feed(.., 0)", x.feed(1, 0), Due.BEYOND);
    due.is("feed(.., 9)", x.feed(1, 9), Due.BEYOND);
    due.is("feed(.., -1)", x.feed(1, -1), Due.BEYOND);
    for (int i = 1; i <= 6; i++) {
      due.is("feed(.., 8)", x.feed(0x3131313131313131L, 8), 8 * i);
    }
    due.is("feed(.., 3)", x.feed(0, 3), Due.FULL);
    due.is("feed(.., far)", x.feed(0, MAX), Due.BEYOND);
    due.is("count(7)", x.count(7), 48);
    due.is("feed(.., 2)", x.feed(0, 2), 50);
    due.is("feed(.., 1)", x.feed(0, 1), Due.FULL);
    due.is("count(7) of a full one", x.count(7), 50);
  }

  private static void feedOrder() {
    due.part("promise 12, order");
    TurnedBeam x = new TurnedBeam();
    x.feed(0x392D30L, 2);
    due.is("count(7)", x.count(7), 2);
    x.feed(0x7732L, 1);
    due.is("text(0) of 0-2", x.text(0), 1);
    x.feed(0x322B31L, 3);
    due.is("text(0) of 1+2", x.text(0), 1);
    due.is("law(0, 0, 0, 0)", x.law(0, 0, 0, 0), 3);
    x.feed(0x38372B36352A3433L, 8);
    due.is("text(1) of eight bytes", x.text(1), 1);
    x.feed(0x2D31L, 2);
    x.feed(0xFFFFFFFFFFFFFF36L, 1);
    due.is("text(1) over two words", x.text(1), 1);
    due.is("law(1, 0, 0, 0)", x.law(1, 0, 0, 0), -5);
  }

  private static void goodTexts() {
    due.part("promise 13, texts");
    String[] good = {"1", "9999", "0000", "r", "c", "m", "!r", "!!!!!r", "(((((r)))))", "r+c*m", "1<2", "(1<2)<3",
        "1<(2<3)", "1<2&3>2|0=1", "r%c/m*2-1+4", "1-1-1", "1|1|1", "1&1&1", "!1*!2", "!(!(!1))", "(((((1)))))+(((((1)))))",
        "!1+!1+!1+!1+!1+!1", "!!!!(1)", "1*2<3*4", "((1<2)<(3<4))<5", "1<2|1<2", "1=2&1>2",
        "11+1+1+1+1+1+1+1+1+1+1+1+1+1+1+1+1+1+1+1+1+1+1+1+1"};
    for (String text : good) {
      TurnedBeam x = new TurnedBeam();
      due.is("text(0) of " + text, Due.text(x, 0, text), 1);
      due.is("count(7)", x.count(7), 0);
    }
    for (String text : new String[] {"i", "o", "t", "i+o*t"}) {
      due.is("text(1) of " + text, Due.text(new TurnedBeam(), 1, text), 1);
    }
    TurnedBeam x = new TurnedBeam();
    Due.text(x, 0, good[good.length - 1]);
    due.is("law(0, ..) of fifty bytes", x.law(0, 0, 0, 0), 35);
  }

  private static void faults() {
    due.part("promise 13, faults");
    String[] texts = {"", "12345", "a", "1+", "1++1", "1<2<3", "1=2=3", "1<2=3", "1>2<3", "!!!!!!1", "((((((1", "(1", "(1))", "1 +1",
        "()", "!", "r1", "1r", "rc", "i", "-1", "1|", "1&&1", "!(!(!(1)))", "(1)(2)", "1!1", ")", "(((((1))))", "1/", "%", "(1<2<3)",
        "!!!!!(1)", "12345+1", "(12345)", "1+!", "1*(2+", "1,2", "r+o", "0x", "(r", "(r)c", "1|&1", "1<", "1<2<", "r==c"};
    int[] faults = {0, 4, 0, 2, 2, 3, 3, 3, 3, 5, 5, 2, 3, 1,
        1, 1, 1, 1, 1, 0, 0, 2, 2, 5, 3, 1, 0, 10, 2, 0, 4,
        5, 4, 5, 3, 5, 1, 2, 1, 2, 3, 2, 2, 3, 2};
    for (int i = 0; i < texts.length; i++) {
      TurnedBeam x = new TurnedBeam();
      due.is("text(0) of " + texts[i], Due.text(x, 0, texts[i]), -10 - faults[i]);
      due.is("count(7)", x.count(7), 0);
      due.is("law(0, 0, 0, 1)", x.law(0, 0, 0, 1), 6);
      due.is("told(1)", x.told(1), 0);
    }
    for (String text : new String[] {"r", "c", "m"}) {
      due.is("text(1) of " + text, Due.text(new TurnedBeam(), 1, text), -10);
    }
    TurnedBeam x = new TurnedBeam();
    x.feed(-1L, 8);
    due.is("text(0) of bytes 255", x.text(0), -10);
    x.feed(0xB1B1L, 2);
    due.is("text(0) of a byte over 127", x.text(0), -10);
    x.feed(0x0031L, 2);
    due.is("text(0) with a byte 0", x.text(0), -11);
    for (int i = 0; i < 10; i++) {
      x.feed(0x312B312B31L << 8 | '+', 5);
      x.feed(0, 0);
    }
    due.is("a full tape", x.count(7), 50);
    due.is("text(1) of a full tape", x.text(1), -10);
  }

  private static void faultKeepsText() {
    due.part("promise 13, what stays");
    TurnedBeam x = new TurnedBeam();
    Due.text(x, 0, "m+70");
    Due.text(x, 1, "t+30");
    due.is("law(0, 1, 1, 1)", x.law(0, 1, 1, 1), 71);
    due.is("law(1, 1, 1, 1)", x.law(1, 1, 1, 1), 31);
    due.is("a fault", Due.text(x, 0, "1+1+"), -14);
    due.is("law(0, ..) behind a fault", x.law(0, 1, 1, 1), 71);
    Due.feed(x, "1+1");
    due.is("text(2)", x.text(2), Due.BEYOND);
    due.is("text(-1)", x.text(-1), Due.BEYOND);
    due.is("count(7) behind BEYOND", x.count(7), 3);
    due.is("text(0)", x.text(0), 1);
    due.is("law(0, ..) of another text", x.law(0, 1, 1, 1), 2);
    due.is("law(1, ..) of the one ahead", x.law(1, 1, 1, 1), 31);
  }

  private static void law() {
    due.part("promise 14");
    TurnedBeam x = new TurnedBeam();
    due.is("law(0, 1, 2, 3)", x.law(0, 1, 2, 3), 8);
    due.is("law(1, 1, 2, 3)", x.law(1, 1, 2, 3), 0);
    due.is("law(2, ..)", x.law(2, 0, 0, 0), Due.BEYOND);
    due.is("law(-1, ..)", x.law(-1, 0, 0, 0), Due.BEYOND);
    Due.text(x, 0, "r*16+c*4+m");
    due.is("law(0, ..) by names", x.law(0, 1, 2, 3), 27);
    Due.text(x, 1, "i*16+o*4+t");
    due.is("law(1, ..) by names", x.law(1, 3, 2, 1), 57);
  }

  private static void value(String text, int a, int b, int c, int want) {
    TurnedBeam x = new TurnedBeam();
    due.is("text(1) of " + text, Due.text(x, 1, text), 1);
    due.is("law(1, " + a + ", " + b + ", " + c + ") by " + text, x.law(1, a, b, c), want);
  }

  private static void values() {
    due.part("promise 14, values");
    value("i/o", 7, 2, 0, 3);
    value("i/o", -7, 2, 0, -3);
    value("i/o", 7, 0, 0, 0);
    value("i/o", MIN, -1, 0, -99);
    value("i%o", 7, 3, 0, 1);
    value("i%o", -7, 3, 0, -1);
    value("i%o", 7, -3, 0, 1);
    value("i%o", 7, 0, 0, 0);
    value("i%o", MIN, -1, 0, 0);
    value("i-o-t", 10, 3, 2, 5);
    value("i/o*t", 7, 2, 2, 6);
    value("i+o*t", 1, 2, 3, 7);
    value("(i+o)*t", 1, 2, 3, 9);
    value("i<o", 1, 2, 0, 1);
    value("i<o", 2, 2, 0, 0);
    value("i>o", 2, 1, 0, 1);
    value("i>o", 2, 2, 0, 0);
    value("i=o", 2, 2, 0, 1);
    value("i=o", 2, 3, 0, 0);
    value("i<o", MIN, MAX, 0, 1);
    value("i|o", 0, 0, 0, 0);
    value("i|o", 5, 0, 0, 1);
    value("i|o", 0, -5, 0, 1);
    value("i&o", 5, 6, 0, 1);
    value("i&o", 1, 2, 0, 1);
    value("i&o", 5, 0, 0, 0);
    value("i&o", 0, 5, 0, 0);
    value("!i", 0, 0, 0, 1);
    value("!i", -5, 0, 0, 0);
    value("!!i", -5, 0, 0, 1);
    value("i|o&t", 1, 0, 0, 1);
    value("i&o|t", 0, 0, 7, 1);
    value("i&o<t", 4, 1, 2, 1);
    value("i<o+t", 5, 3, 3, 1);
    value("!i*5", 0, 0, 0, 5);
    value("!(i*5)", 0, 0, 0, 1);
    value("i*i", 65536, 0, 0, 0);
    value("i+o", MAX, 1, 0, -99);
    value("i-o", MIN, 1, 0, 99);
    value("i*o", 46341, 46341, 0, -99);
    value("0012+0", 0, 0, 0, 12);
    value("9999-9950", 0, 0, 0, 49);
    value("9998+1=9999", 0, 0, 0, 1);
    value("i", 42, 0, 0, 42);
    value("i&0|o/0+t%0+3", 1, 1, 1, 1);
  }

  private static void held() {
    due.part("promise 14, held");
    TurnedBeam x = new TurnedBeam();
    Due.text(x, 0, "r");
    Due.text(x, 1, "i");
    int[] given = {MIN, -100, -99, -1, 0, 99, 100, MAX};
    int[] hand = {0, 0, 0, 0, 0, 99, 99, 99};
    int[] bet = {-99, -99, -99, -1, 0, 99, 99, 99};
    for (int i = 0; i < given.length; i++) {
      due.is("law(0, " + given[i] + ", ..)", x.law(0, given[i], 0, 0), hand[i]);
      due.is("law(1, " + given[i] + ", ..)", x.law(1, given[i], 0, 0), bet[i]);
    }
  }
}
