/** Counts answers that are not as due, and prints each. */
final class Due {
  static final int BEYOND = -1000000001;
  static final int NONE = -1000000002;
  static final int STATE = -1000000003;
  static final int FULL = -1000000004;
  static final int KIND = -1000000005;

  private int asked = 0;
  private int wrong = 0;
  private String part = "";

  void part(String name) {
    part = name;
  }

  void is(String call, long got, long due) {
    asked++;
    if (got != due) {
      wrong++;
      System.out.println(part + ": " + call + " answered " + got + ", due is " + due);
    }
  }

  void end() {
    System.out.println(asked + " answers, " + wrong + " not as due");
    System.exit(wrong == 0 ? 0 : 1);
  }

  /** Feeds a text, eight bytes at a time. */
  static void feed(TurnedBeam x, String text) {
    for (int from = 0; from < text.length(); from += 8) {
      int n = Math.min(8, text.length() - from);
      long word = 0;
      for (int i = n - 1; i >= 0; i--) {
        word = word << 8 | text.charAt(from + i);
      }
      x.feed(word, n);
    }
  }

  static int text(TurnedBeam x, int use, String text) {
    feed(x, text);
    return x.text(use);
  }

  static void sheet(TurnedBeam x, int sheet, int bits, int... numbers) {
    x.sheet(sheet, bits, numbers.length);
    for (int i = 0; i < numbers.length; i++) {
      x.put(sheet, i, numbers[i]);
    }
  }

  /** A hall by the kinds, the m and the slants of its squares, a digit each. */
  static TurnedBeam built(int rows, int columns, String kinds, String numbers, String slants) {
    TurnedBeam x = new TurnedBeam();
    x.hall(rows, columns);
    for (int i = 0; i < rows * columns; i++) {
      x.square(i, 10 * (kinds.charAt(i) - '0') + numbers.charAt(i) - '0', slants.charAt(i) - '0');
    }
    return x;
  }

  /** A hall from rows of signs, one a square: . square, / and \ mirrors, other kinds by km and slant apart. */
  static TurnedBeam hall(String... rows) {
    TurnedBeam x = new TurnedBeam();
    x.hall(rows.length, rows[0].length());
    for (int r = 0; r < rows.length; r++) {
      for (int c = 0; c < rows[r].length(); c++) {
        int at = r * rows[r].length() + c;
        switch (rows[r].charAt(c)) {
          case '/': x.square(at, 10, 0); break;
          case '\\': x.square(at, 10, 1); break;
          case 't': x.square(at, 20, 0); break;
          case '#': x.square(at, 30, 0); break;
          case 's': x.square(at, 40, 0); break;
          case 'S': x.square(at, 40, 1); break;
          case 'l': x.square(at, 50, 0); break;
          case 'L': x.square(at, 50, 1); break;
          case 'x': x.square(at, 60, 0); break;
          default: break;
        }
      }
    }
    return x;
  }
}
