import java.util.Random;

/** Makes calls with mostly ordinary numbers, and some at the edges or far beyond them. */
final class RandomCalls {
  private static final String[] NAMES = {
    "hall", "square", "square", "square", "ofSquare", "as", "hand", "slants", "let", "let", "let", "out", "way",
    "undo", "undo", "text", "law", "round", "back", "throne", "had", "odds", "fits", "tells",
    "longest", "days", "seed", "voice", "trace", "sheet", "put", "put", "put", "move", "lets", "judge", "image",
    "restore", "tell", "check", "count", "count", "told",
  };
  private static final String[] FEEDS = {"feed", "feed", "feed", "text", "law", "hand", "let", "ofSquare"};
  private static final int[] FAR = {Integer.MIN_VALUE, Integer.MAX_VALUE, -1, -2, 100, 9999, 1 << 25, 51, -1000000001};

  private final Random random;
  /** How likely a number is put far beyond, in hundredths. */
  private final int wild;
  private final boolean textual;
  String name = "";
  long[] numbers = {};

  RandomCalls(long seed, int wild, boolean textual) {
    this.random = new Random(seed);
    this.wild = wild;
    this.textual = textual;
  }

  void next(int rows, int columns) {
    int squares = rows * columns;
    int windows = 2 * (rows + columns);
    String[] names = textual && random.nextInt(3) > 0 ? FEEDS : NAMES;
    name = names[random.nextInt(names.length)];
    if (name.equals("hall") && random.nextInt(4) > 0) {
      name = "square";
    }
    numbers = ordinary(squares, windows);
    for (int i = 0; i < numbers.length; i++) {
      if (!name.equals("feed") && random.nextInt(100) < wild) {
        numbers[i] = random.nextBoolean() ? FAR[random.nextInt(FAR.length)] : numbers[i] + random.nextInt(7) - 3;
      }
    }
  }

  /** A square of a hall that is filled ahead of the run. */
  void fill(int square) {
    name = "square";
    numbers = row(square, kind() * 10 + below(10), below(2));
  }

  private long[] ordinary(int squares, int windows) {
    switch (name) {
      case "hall":
        return row(1 + below(5), 1 + below(5));
      case "square":
        return row(below(squares), kind() * 10 + below(10), below(2));
      case "ofSquare":
        return row(below(squares), below(8));
      case "as":
        return row(below(squares), below(7));
      case "hand":
        return row(below(squares));
      case "let":
      case "undo":
      case "round":
        return row(below(windows));
      case "out":
        return row(below(windows), below(4));
      case "way":
        return row(below(windows), below(12));
      case "feed":
        int n = below(20) == 0 ? below(12) - 1 : 1 + below(8);
        return row(word(), n);
      case "text":
        return row(below(2));
      case "law":
        return row(below(2), number(), number(), number());
      case "back":
        return row(below(4) - 1);
      case "throne":
        return row(below(squares), below(windows), below(3));
      case "odds":
        return row(mask(squares), below(windows), outOf(windows), below(2));
      case "fits":
        return row(mask(squares), below(4));
      case "tells":
        return row(mask(squares), below(4), below(2));
      case "longest":
        return row(below(2));
      case "days":
        return row(below(8) == 0 ? 200 : 1 + below(30));
      case "seed":
        return row(random.nextInt());
      case "voice":
        return row(below(squares), below(4), number());
      case "trace":
        return row(below(12));
      case "sheet":
        int size = below(3) == 0 ? squares : below(3) == 0 ? below(42) : below(6);
        return row(below(4), new int[] {0, 8, 8, 8, 16, 32}[below(6)], size);
      case "put":
        return row(below(4), below(6), below(4) == 0 ? number() : below(4) == 0 ? below(2) : outOf(windows));
      case "move":
        return row(below(4), below(5), below(4), below(5), below(5));
      case "lets":
      case "judge":
        return row(below(4));
      case "tell":
        return row(outOf(windows));
      case "count":
        return row(below(11));
      case "told":
        return row(1 + below(5));
      default:
        return new long[0];
    }
  }

  private static long[] row(long... numbers) {
    return numbers;
  }

  private int below(int bound) {
    return random.nextInt(bound);
  }

  private int kind() {
    return new int[] {0, 1, 1, 1, 2, 3, 4, 4, 5, 5, 5, 6}[below(12)];
  }

  private int outOf(int windows) {
    return below(6) == 0 ? 100 : below(windows);
  }

  private int mask(int squares) {
    return below(3) == 0 ? (1 << squares) - 1 : below(1 << squares);
  }

  private int number() {
    return below(4) == 0 ? random.nextInt() : below(40) - 15;
  }

  private long word() {
    String signs = below(3) == 0 ? "0123456789rcmiot!()|&<=>+-*/% x" : "1237rcmmcriotiot!(())|&<=>+-*/%";
    long word = 0;
    for (int i = 0; i < 8; i++) {
      word = word << 8 | signs.charAt(below(signs.length()));
    }
    return below(30) == 0 ? random.nextLong() : word;
  }
}
