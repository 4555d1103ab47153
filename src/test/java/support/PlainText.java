/** A text taken apart from the outside in: at the loosest joining sign outside of all brackets. */
final class PlainText {
  private static final String[] JOINS = {"|", "&", "<=>", "+-", "*/%"};
  private static final String CLOSES = ")))))";

  private final char sign;
  private final int number;
  private final PlainText left;
  private final PlainText right;

  private PlainText(char sign, int number, PlainText left, PlainText right) {
    this.sign = sign;
    this.number = number;
    this.left = left;
    this.right = right;
  }

  /** Null if it is no text. */
  static PlainText of(String text, String names) {
    return at(text, names, 0, 0);
  }

  /** A start of a text can be ended by one number and brackets that close. */
  static int fault(String text, String names) {
    for (int n = 1; n <= text.length(); n++) {
      if (!goesOn(text.substring(0, n), names)) {
        return n - 1;
      }
    }
    return text.length();
  }

  private static boolean goesOn(String start, String names) {
    for (int k = 0; k <= CLOSES.length(); k++) {
      String closes = CLOSES.substring(0, k);
      if (of(start + closes, names) != null || of(start + "1" + closes, names) != null) {
        return true;
      }
    }
    return false;
  }

  private static PlainText at(String text, String names, int level, int open) {
    if (level == JOINS.length) {
      return leaf(text, names, open);
    }
    int cut = lastOutside(text, JOINS[level]);
    if (cut < 0) {
      return at(text, names, level + 1, open);
    }
    // A comparison joins two sums, never a comparison and a sum.
    int leftLevel = level == 2 ? level + 1 : level;
    PlainText left = at(text.substring(0, cut), names, leftLevel, open);
    PlainText right = at(text.substring(cut + 1), names, level + 1, open);
    return left == null || right == null ? null : new PlainText(text.charAt(cut), 0, left, right);
  }

  private static int lastOutside(String text, String signs) {
    int depth = 0;
    for (int i = text.length() - 1; i >= 0; i--) {
      char c = text.charAt(i);
      depth += c == ')' ? 1 : c == '(' ? -1 : 0;
      if (depth == 0 && signs.indexOf(c) >= 0) {
        return i;
      }
    }
    return -1;
  }

  private static PlainText leaf(String text, String names, int open) {
    if (text.matches("[0-9]{1,4}")) {
      return new PlainText('#', Integer.parseInt(text), null, null);
    }
    if (text.length() == 1 && names.contains(text)) {
      return new PlainText((char) ('a' + names.indexOf(text)), 0, null, null);
    }
    if (text.startsWith("!") && open < 5) {
      PlainText of = leaf(text.substring(1), names, open + 1);
      return of == null ? null : new PlainText('!', 0, of, null);
    }
    if (text.startsWith("(") && text.endsWith(")") && text.length() > 2 && open < 5) {
      return at(text.substring(1, text.length() - 1), names, 0, open + 1);
    }
    return null;
  }

  int value(int a, int b, int c) {
    switch (sign) {
      case '#':
        return number;
      case 'a':
        return a;
      case 'b':
        return b;
      case 'c':
        return c;
      default:
        break;
    }
    int l = left.value(a, b, c);
    if (sign == '!') {
      return l == 0 ? 1 : 0;
    }
    int r = right.value(a, b, c);
    switch (sign) {
      case '|':
        return l != 0 || r != 0 ? 1 : 0;
      case '&':
        return l != 0 && r != 0 ? 1 : 0;
      case '<':
        return l < r ? 1 : 0;
      case '=':
        return l == r ? 1 : 0;
      case '>':
        return l > r ? 1 : 0;
      case '+':
        return (int) ((long) l + r);
      case '-':
        return (int) ((long) l - r);
      case '*':
        return (int) ((long) l * r);
      case '/':
        return r == 0 ? 0 : (int) ((long) l / r);
      default:
        return r == 0 ? 0 : (int) ((long) l % r);
    }
  }
}
