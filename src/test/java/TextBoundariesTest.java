/** Each sentence of promises 12 to 14, and of the terms under 2, that names a boundary; refusals stand in RefusedCallsTest. */
public final class TextBoundariesTest {
  private static final Due due = new Due();
  private static final int MIN = Integer.MIN_VALUE;
  private static final int MAX = Integer.MAX_VALUE;
  private static final String FIFTY = "1+1+1+1+1+1+1+1+1+1+1+1+1+1+1+1+1+1+1+1+1+1+1+1+11";

  public static void main(String[] args) {
    oneByteAndEight();
    lowestBytesFirst();
    fiftyBytes();
    fiftySigns();
    fullThenLess();
    tapeIsEmptyThen();
    emptyTape();
    tooEarly();
    tooEarlyAtTheLastByte();
    faultAtTheLastByte();
    fourDigits();
    names();
    noBlanks();
    fiveOpen();
    openOnesClose();
    oneComparison();
    faultIsNoError();
    inPlaceOfOneAhead();
    wraps();
    byZero();
    cut();
    trueAndFalse();
    bindings();
    heldByHand();
    heldByBet();
    withoutText();
    due.end();
  }

  private static void oneByteAndEight() {
    due.part("promise 12: n lowest bytes (1 .. 8)");
    TurnedBeam x = new TurnedBeam();
    due.is("feed(.., 1)", x.feed(-1L, 1), 1);
    due.is("feed(.., 8)", x.feed(-1L, 8), 9);
    due.is("feed(MIN, 8)", x.feed(Long.MIN_VALUE, 8), 17);
    due.is("count(7)", x.count(7), 17);
  }

  private static void lowestBytesFirst() {
    due.part("promise 12: the lowest first");
    TurnedBeam x = new TurnedBeam();
    x.feed(0x7F7F7F7F7F7F392DL << 8 | '0', 3);
    due.is("text(1) of 0-9", x.text(1), 1);
    due.is("law(1, ..)", x.law(1, 0, 0, 0), -9);
    x.feed(0x312D322D332D3430L, 8);
    due.is("text(1) of 04-3-2-1", x.text(1), 1);
    due.is("law(1, ..) then", x.law(1, 0, 0, 0), -2);
    x.feed(0x80L << 56 | 0x302B302B302B31L, 8);
    due.is("text(1), the eighth byte is 128", x.text(1), -17);
  }

  private static void fiftyBytes() {
    due.part("terms: THE TAPE (bytes, at most 50)");
    TurnedBeam x = new TurnedBeam();
    Due.feed(x, FIFTY);
    due.is("count(7)", x.count(7), 50);
    due.is("feed(.., 1)", x.feed('1', 1), Due.FULL);
    due.is("count(7) then", x.count(7), 50);
    due.is("text(0)", x.text(0), 1);
    due.is("law(0, ..)", x.law(0, 0, 0, 0), 35);
  }

  private static void fiftySigns() {
    due.part("terms: a TEXT of as many signs as bytes");
    TurnedBeam x = new TurnedBeam();
    String most = "!0+!0+!0+!0+!0+!0+!0+!0+!0+!0+!0+!0+!0+!0+!0+!0+!0";
    Due.feed(x, most);
    due.is("count(7)", x.count(7), 50);
    due.is("text(1)", x.text(1), 1);
    due.is("law(1, ..)", x.law(1, 0, 0, 0), 17);
    due.is("text(1) once more", Due.text(x, 1, most.replace('+', '-')), 1);
    due.is("law(1, ..) of the other", x.law(1, 0, 0, 0), 1 - 16);
  }

  private static void fullThenLess() {
    due.part("promise 12: FULL, nothing of it comes");
    TurnedBeam x = new TurnedBeam();
    Due.feed(x, FIFTY.substring(0, 43));
    due.is("feed(.., 8) at 43", x.feed(0x3131313131313131L, 8), Due.FULL);
    due.is("count(7)", x.count(7), 43);
    due.is("feed(.., 7) at 43", x.feed(0x31313131312B31L, 7), 50);
    due.is("text(0), faulty by its number alone", x.text(0), -10 - 49);
    Due.feed(x, FIFTY.substring(0, 42));
    due.is("feed(.., 8) at 42", x.feed(0, 8), 50);
  }

  private static void tapeIsEmptyThen() {
    due.part("promise 13: THE TAPE, which is empty then");
    for (String text : new String[] {"1", "+", FIFTY}) {
      for (int use = 0; use < 2; use++) {
        TurnedBeam x = new TurnedBeam();
        Due.text(x, use, text);
        due.is("count(7) behind " + text, x.count(7), 0);
        due.is("feed(.., 1)", x.feed('9', 1), 1);
        due.is("text(1) of 9", x.text(1), 1);
        due.is("law(1, ..)", x.law(1, 0, 0, 0), 9);
      }
    }
  }

  private static void fault(String text, int use, int at) {
    TurnedBeam x = new TurnedBeam();
    due.is("text(" + use + ") of " + text, Due.text(x, use, text), -10 - at);
    due.is("count(7)", x.count(7), 0);
  }

  private static void good(String text, int use) {
    due.is("text(" + use + ") of " + text, Due.text(new TurnedBeam(), use, text), 1);
  }

  private static void emptyTape() {
    due.part("promise 13: an empty TAPE ends too early");
    fault("", 0, 0);
    fault("", 1, 0);
  }

  private static void tooEarly() {
    due.part("terms: FAULT, how many there are, if it ends too early");
    for (String text : new String[] {"!", "(", "(1", "((1)", "1|", "1&", "1<", "1=", "1>", "1+", "1-", "1*", "1/", "1%", "!!", "1+(2", "(!(1)"}) {
      fault(text, 0, text.length());
    }
  }

  private static void tooEarlyAtTheLastByte() {
    due.part("terms: FAULT, a full TAPE that ends too early");
    fault(FIFTY.substring(0, 49) + "+", 0, 50);
    fault("(" + FIFTY.substring(0, 49), 0, 50);
  }

  private static void faultAtTheLastByte() {
    due.part("terms: FAULT, the last byte of a full TAPE");
    fault(FIFTY.substring(0, 49) + ")", 0, 49);
    fault(FIFTY.substring(0, 49) + "(", 0, 49);
  }

  private static void fourDigits() {
    due.part("terms: a NUMBER of 1 to 4 digits");
    for (String text : new String[] {"0", "12", "123", "1234", "9999", "0000", "0009", "1234+1234", "(1234)", "!1234"}) {
      good(text, 0);
    }
    fault("12345", 0, 4);
    fault("00000", 0, 4);
    fault("1+12345", 0, 6);
    fault("(99999", 0, 5);
    fault("!10000", 0, 5);
    TurnedBeam x = new TurnedBeam();
    Due.text(x, 1, "9999-9901");
    due.is("law(1, ..) of 9999-9901", x.law(1, 0, 0, 0), 98);
  }

  private static void names() {
    due.part("terms: NAMES of a USE alone");
    for (String name : new String[] {"r", "c", "m"}) {
      good(name, 0);
      fault(name, 1, 0);
      fault("1+" + name, 1, 2);
    }
    for (String name : new String[] {"i", "o", "t"}) {
      good(name, 1);
      fault(name, 0, 0);
      fault("1+" + name, 0, 2);
    }
    for (String none : new String[] {"R", "n", "x", "a", "z", "_", "M", "I"}) {
      fault(none, 0, 0);
      fault(none, 1, 0);
    }
    fault("rr", 0, 1);
    fault("1r", 0, 1);
    fault("r1", 0, 1);
    fault("r(", 0, 1);
    fault("r!", 0, 1);
  }

  private static void noBlanks() {
    due.part("terms: no blanks");
    fault(" 1", 0, 0);
    fault("1 ", 0, 1);
    fault("1 +1", 0, 1);
    fault("1+ 1", 0, 2);
    fault("1\n", 0, 1);
    fault("! 1", 0, 1);
    fault("1" + (char) 0, 0, 1);
    fault("1" + (char) 255, 0, 1);
  }

  private static void fiveOpen() {
    due.part("terms: at most 5 of ! and ( are open at once");
    for (String open : new String[] {"!!!!!", "(((((", "!(!(!", "(!(!(", "((!!!", "!!((("}) {
      StringBuilder close = new StringBuilder();
      for (char sign : open.toCharArray()) {
        close.append(sign == '(' ? ")" : "");
      }
      good(open + "1" + close, 0);
      fault(open + "!1" + close, 0, 5);
      fault(open + "(1)" + close, 0, 5);
      fault(open, 0, 5);
    }
    fault("1+!!!!!!1", 0, 7);
  }

  private static void openOnesClose() {
    due.part("terms: open at once, those that are closed aren't");
    good("!!!!!1+!!!!!1", 0);
    good("(((((1)))))+(((((1)))))", 0);
    good("(!1+!1+!1+!1+!1+!1)", 0);
    good("(1)+(1)+(1)+(1)+(1)+(1)", 0);
    good("((((!1+!1))))", 0);
    good("((((!1+(1)))))", 0);
    good("!(!1*!(!1+!1))", 0);
    good("!!!!(1+1)*!!!!(1)", 0);
    fault("((((!1+!(1)))))", 0, 8);
  }

  private static void oneComparison() {
    due.part("terms: B: S, or S < S, S = S, S > S");
    String[] signs = {"<", "=", ">"};
    for (String first : signs) {
      good("1" + first + "2", 0);
      good("(1" + first + "2)" + first + "3", 0);
      for (String second : signs) {
        fault("1" + first + "2" + second + "3", 0, 3);
        fault("1" + first + second + "3", 0, 2);
        fault("(1" + first + "2" + second + "3)", 0, 4);
        good("1" + first + "2&3" + second + "4", 0);
        good("1" + first + "2|3" + second + "4", 0);
        good("1" + first + "(2" + second + "3)", 0);
      }
    }
  }

  private static void faultIsNoError() {
    due.part("promise 13: no ERROR; the one ahead stays");
    TurnedBeam x = new TurnedBeam();
    Due.text(x, 0, "m+1");
    due.is("text(0) of nothing", x.text(0), -10);
    due.is("text(0) of a fault", Due.text(x, 0, "m+2+"), -14);
    due.is("law(0, ..)", x.law(0, 0, 0, 5), 6);
    for (int k = 1; k <= 5; k++) {
      due.is("told(" + k + ")", x.told(k), 0);
    }
  }

  private static void inPlaceOfOneAhead() {
    due.part("promise 13: in place of one ahead");
    TurnedBeam x = new TurnedBeam();
    Due.text(x, 0, FIFTY);
    Due.text(x, 1, "(((((7)))))");
    Due.text(x, 0, "m");
    due.is("law(0, ..) of a shorter one", x.law(0, 1, 2, 3), 3);
    due.is("law(1, ..) of the other USE", x.law(1, 1, 2, 3), 7);
  }

  private static void gives(String text, int a, int b, int want) {
    TurnedBeam x = new TurnedBeam();
    Due.text(x, 1, text);
    due.is(text + " of " + a + ", " + b, x.law(1, a, b, 0), want);
  }

  private static void wraps() {
    due.part("terms: ints that wrap");
    gives("i+1<0", MAX, 0, 1);
    gives("i-1>0", MIN, 0, 1);
    gives("i*2=0", MIN, 0, 1);
    gives("0-i=i", MIN, 0, 1);
    gives("i*o=0", 65536, 65536, 1);
    gives("i*o=1", -1, -1, 1);
    gives("9999*9999*9999<0", 0, 0, 9999 * 9999 * 9999 < 0 ? 1 : 0);
    gives("i/o=i", MIN, -1, 1);
    gives("i%o", MIN, -1, 0);
    gives("i-o>0", MIN, MAX, 1);
  }

  private static void byZero() {
    due.part("terms: / cut, % the rest that it leaves, both by 0 are 0");
    for (int a : new int[] {0, 1, -1, MIN, MAX}) {
      gives("i/0", a, 0, 0);
      gives("i%0", a, 0, 0);
      gives("i/(o-o)+5", a, 7, 5);
      gives("i%(o-o)+5", a, 7, 5);
    }
  }

  private static void cut() {
    due.part("terms: / cut");
    gives("i/o", 5, 3, 1);
    gives("i/o", -5, 3, -1);
    gives("i/o", 5, -3, -1);
    gives("i/o", -5, -3, 1);
    gives("i/o", 2, 3, 0);
    gives("i/o", -2, 3, 0);
    gives("i%o", 5, 3, 2);
    gives("i%o", -5, 3, -2);
    gives("i%o", 5, -3, 2);
    gives("i%o", -5, -3, -2);
  }

  private static void trueAndFalse() {
    due.part("terms: what is not 0 being true");
    int[] numbers = {0, 1, 2, -1, MIN};
    for (int a : numbers) {
      gives("!i", a, 0, a == 0 ? 1 : 0);
      gives("!!i", a, 0, a != 0 ? 1 : 0);
      for (int b : numbers) {
        gives("i|o", a, b, a != 0 || b != 0 ? 1 : 0);
        gives("i&o", a, b, a != 0 && b != 0 ? 1 : 0);
        gives("i<o", a, b, a < b ? 1 : 0);
        gives("i=o", a, b, a == b ? 1 : 0);
        gives("i>o", a, b, a > b ? 1 : 0);
      }
    }
  }

  private static void bindings() {
    due.part("terms: T of A, A of B, B of S, S of P, P of Q");
    gives("1|0&0", 0, 0, 1);
    gives("0&0|1", 0, 0, 1);
    gives("1&2>1", 0, 0, 1);
    gives("2>1&1", 0, 0, 1);
    gives("3<1+3", 0, 0, 1);
    gives("1+3>3", 0, 0, 1);
    gives("1+2*3", 0, 0, 7);
    gives("2*3+1", 0, 0, 7);
    gives("9-3-2", 0, 0, 4);
    gives("9-3+2", 0, 0, 8);
    gives("8/2/2", 0, 0, 2);
    gives("7%4*2", 0, 0, 6);
    gives("7*4%5", 0, 0, 3);
    gives("!0+1", 0, 0, 2);
    gives("!0*3", 0, 0, 3);
    gives("!(0+1)", 0, 0, 0);
    gives("9-(3-2)", 0, 0, 8);
    gives("(0|1)", 0, 0, 1);
    gives("(0|0|3)*7", 0, 0, 7);
    gives("(1|1)&0", 0, 0, 0);
    gives("2*(1&0|1)", 0, 0, 2);
    gives("!(0|0)", 0, 0, 1);
    gives("(1<2)+(2=2)", 0, 0, 2);
  }

  private static void heldByHand() {
    due.part("terms: HAND held within 0 to 99");
    TurnedBeam x = Due.hall("/");
    int[] given = {MIN, -1, 0, 1, 98, 99, 100, MAX};
    int[] held = {0, 0, 0, 1, 98, 99, 99, 99};
    for (int i = 0; i < given.length; i++) {
      Due.text(x, 0, "r");
      due.is("law(0, " + given[i] + ", ..)", x.law(0, given[i], 0, 0), held[i]);
    }
    Due.text(x, 0, "100");
    due.is("ofSquare(0, 5)", x.ofSquare(0, 5), 99);
    x.hand(0);
    due.is("count(5)", x.count(5), -99);
    Due.text(x, 0, "0-1");
    due.is("ofSquare(0, 5) of 0-1", x.ofSquare(0, 5), 0);
    x.hand(0);
    due.is("count(5) of 0-1", x.count(5), -99);
  }

  private static void heldByBet() {
    due.part("terms: BET held within -99 to 99");
    TurnedBeam x = new TurnedBeam();
    int[] given = {MIN, -100, -99, -98, 0, 98, 99, 100, MAX};
    int[] held = {-99, -99, -99, -98, 0, 98, 99, 99, 99};
    Due.text(x, 1, "i");
    for (int i = 0; i < given.length; i++) {
      due.is("law(1, " + given[i] + ", ..)", x.law(1, given[i], 0, 0), held[i]);
    }
    Due.text(x, 1, "100");
    x.let(0);
    due.is("count(5)", x.count(5), 99);
    Due.text(x, 1, "0-100");
    x.let(0);
    due.is("count(5) then", x.count(5), 0);
  }

  private static void withoutText() {
    due.part("terms: without a TEXT 5+m; without 0");
    TurnedBeam x = Due.hall("/");
    for (int m = 0; m <= 9; m++) {
      due.is("law(0, 0, 0, " + m + ")", x.law(0, 0, 0, m), 5 + m);
      x.square(0, 10 + m, 0);
      due.is("ofSquare(0, 5) of m " + m, x.ofSquare(0, 5), 5 + m);
    }
    due.is("law(1, 1, 2, 3)", x.law(1, 1, 2, 3), 0);
    due.is("a fault brings no TEXT", Due.text(x, 0, "1+"), -12);
    due.is("law(0, 0, 0, 3) behind a fault", x.law(0, 0, 0, 3), 8);
  }
}
