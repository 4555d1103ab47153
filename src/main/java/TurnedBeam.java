import java.util.Arrays;

/**
 * A hall of squares and mirrors, and rays that turn each mirror they meet.
 *
 * <p>Every row that a call needs is made together with the object and used again, so that a run of
 * calls makes nothing more.
 */
public final class TurnedBeam {
  private static final int LOW = -1000000000;
  private static final int BEYOND = 1;
  private static final int NONE = 2;
  private static final int STATE = 3;
  private static final int FULL = 4;
  private static final int KIND = 5;

  private static final int MOST_SIDE = 5;
  private static final int MOST_DAYS = 200;
  private static final int LAST_DAY = 9999;
  private static final int SHEETS = 4;

  private final int[] failures = new int[6];
  private final Whole now = new Whole();
  private final Whole kept = new Whole();
  private int timesKept = 0;
  private final Sheet[] sheets = new Sheet[SHEETS];
  private final Beam beam = new Beam();
  private final Hall trial = new Hall();
  private final Reader reader = new Reader();
  private final Voice speaker = new Voice();
  private final Foresight foresight = new Foresight();
  private final Hands hands = new Hands();
  private final Doubt doubt = new Doubt();

  public TurnedBeam() {
    for (int i = 0; i < sheets.length; i++) {
      sheets[i] = new Sheet();
    }
  }

  // ---- the hall

  public int hall(int rows, int columns) {
    if (!within(rows, 1, MOST_SIDE) || !within(columns, 1, MOST_SIDE)) {
      return fail(BEYOND);
    }
    now.hall.clear(rows, columns);
    return now.hall.windows();
  }

  public int square(int square, int km, int slant) {
    Hall hall = now.hall;
    if (!hall.hasSquare(square) || !within(km, 0, Hall.KINDS * 10 - 1) || !within(slant, 0, 1)) {
      return fail(BEYOND);
    }
    int before = hall.kinds[square];
    hall.become(square, km / 10, km % 10, slant);
    return before;
  }

  public int ofSquare(int square, int what) {
    Hall hall = now.hall;
    if (!hall.hasSquare(square) || !within(what, 0, 7)) {
      return fail(BEYOND);
    }
    int kind = hall.kinds[square];
    switch (what) {
      case 0:
        return kind;
      case 1:
        return hall.numbers[square];
      case 2:
        return hall.slantOf(square);
      case 3:
        return hall.timeOf(square);
      case 4:
        return hall.lit[square];
      case 5:
        return hall.handCan(square) ? now.handCost(square) : -1;
      case 6:
        return Hall.throwsRays(kind) ? 1 : 0;
      default:
        return Hall.stopsRays(kind) ? 1 : 0;
    }
  }

  public int as(int square, int kind) {
    Hall hall = now.hall;
    if (!hall.hasSquare(square) || !within(kind, 0, Hall.KINDS - 1)) {
      return fail(BEYOND);
    }
    return Hall.isOf(hall.kinds[square], kind) ? hall.numbers[square] : fail(KIND);
  }

  public int hand(int square) {
    if (!now.hall.hasSquare(square)) {
      return fail(BEYOND);
    }
    return now.handTurns(square) ? now.hall.slantOf(square) : fail(STATE);
  }

  public int slants() {
    return now.hall.slants;
  }

  // ---- rays

  public int let(int window) {
    return now.hall.hasWindow(window) ? now.rayIn(beam, window) : fail(BEYOND);
  }

  public int out(int window, int what) {
    if (!now.hall.hasWindow(window) || !within(what, 0, 3)) {
      return fail(BEYOND);
    }
    trial.copyFrom(now.hall);
    int reached = beam.run(trial, window);
    switch (what) {
      case 0:
        return reached;
      case 1:
        return beam.steps;
      case 2:
        return beam.thrown;
      default:
        return Integer.bitCount(trial.slants ^ now.hall.slants);
    }
  }

  public int way(int window, int i) {
    if (!now.hall.hasWindow(window) || i < 0) {
      return fail(BEYOND);
    }
    trial.copyFrom(now.hall);
    int square = beam.squareOnWay(trial, window, i);
    return square < 0 ? fail(NONE) : square;
  }

  public int undo(int window) {
    if (!now.hall.hasWindow(window)) {
      return fail(BEYOND);
    }
    trial.copyFrom(now.hall);
    int letIn = beam.runBack(trial, window);
    if (letIn == Beam.STOPPED) {
      return fail(STATE);
    }
    now.hall.copyFrom(trial);
    return letIn;
  }

  // ---- texts

  public int feed(long word, int n) {
    if (!within(n, 1, 8)) {
      return fail(BEYOND);
    }
    return now.feedBytes(word, n) ? now.taped : fail(FULL);
  }

  public int text(int use) {
    if (!within(use, 0, 1)) {
      return fail(BEYOND);
    }
    int fault = reader.faultIn(now.tape, now.taped, use);
    now.taped = 0;
    if (fault != Reader.FAULTLESS) {
      return -10 - fault;
    }
    now.lawOf(use).learn(reader.code, reader.length);
    return 1;
  }

  public int law(int use, int a, int b, int c) {
    return within(use, 0, 1) ? now.lawOf(use).gives(a, b, c) : fail(BEYOND);
  }

  // ---- what would be

  public int round(int window) {
    if (!now.hall.hasWindow(window)) {
      return fail(BEYOND);
    }
    int rays = foresight.raysRound(now.hall, window);
    return rays < 1 ? fail(NONE) : rays;
  }

  public int back(int what) {
    if (!within(what, -1, Foresight.MOST_BACK - 1)) {
      return fail(BEYOND);
    }
    if (timesKept == 0 || !now.hall.isSizedAs(kept.hall)) {
      return fail(STATE);
    }
    int rays = foresight.raysBack(now.hall, kept.hall);
    if (rays < 0 || what >= rays) {
      return fail(NONE);
    }
    return what < 0 ? rays : foresight.row[what];
  }

  public int throne(int square, int window, int what) {
    if (!now.hall.hasSquare(square) || !now.hall.hasWindow(window) || !within(what, 0, 2)) {
      return fail(BEYOND);
    }
    if (!hands.lead(now, square, window)) {
      return fail(NONE);
    }
    return what == 0 ? hands.needed : what == 1 ? hands.squares : hands.cost;
  }

  public int had() {
    int standings = foresight.standings(now.hall);
    return standings > Foresight.MOST_HAD ? fail(FULL) : standings;
  }

  public long odds(int mask, int window, int out, int part) {
    Hall hall = now.hall;
    boolean isOut = hall.hasWindow(out) || out == Beam.STOPPED;
    if (!hall.hasMask(mask) || !hall.hasWindow(window) || !isOut || !within(part, 0, 1)) {
      return fail(BEYOND);
    }
    doubt.suppose(hall, mask);
    doubt.weigh(window, out);
    return part == 0 ? doubt.above : doubt.below;
  }

  public int fits(int mask, int sheet) {
    if (!now.hall.hasMask(mask) || !hasSheet(sheet)) {
      return fail(BEYOND);
    }
    Sheet letters = sheets[sheet];
    if (!doubt.canRead(letters, now.hall)) {
      return fail(NONE);
    }
    doubt.suppose(now.hall, mask);
    return doubt.fitting(letters);
  }

  public int tells(int mask, int sheet, int what) {
    if (!now.hall.hasMask(mask) || !hasSheet(sheet) || !within(what, 0, 1)) {
      return fail(BEYOND);
    }
    Sheet letters = sheets[sheet];
    if (!doubt.canRead(letters, now.hall)) {
      return fail(NONE);
    }
    doubt.suppose(now.hall, mask);
    if (!doubt.findTelling(letters)) {
      return fail(NONE);
    }
    return what == 0 ? doubt.tellingWindow : doubt.tellingOuts;
  }

  public int longest(int what) {
    if (!within(what, 0, 1)) {
      return fail(BEYOND);
    }
    foresight.findLongest(now.hall);
    return what == 0 ? foresight.longestWindow : foresight.longestSteps;
  }

  // ---- days, draws, voices, sheets, images, what is told

  public int days(int n) {
    if (!within(n, 1, MOST_DAYS)) {
      return fail(BEYOND);
    }
    if (now.day + n > LAST_DAY) {
      return fail(STATE);
    }
    for (int i = 0; i < n; i++) {
      now.liveDay(beam);
    }
    return now.takings;
  }

  public int seed(int v) {
    int before = now.z;
    now.z = v;
    return before;
  }

  public int voice(int square, int act, int x) {
    if (!now.hall.hasSquare(square) || !within(act, 0, Voice.ACTS - 1)) {
      return fail(BEYOND);
    }
    return speaker.speakFor(now.hall, square, act, x);
  }

  public int trace(int i) {
    return within(i, 0, speaker.begun - 1) ? speaker.bodies[i] : fail(NONE);
  }

  public int sheet(int sheet, int bits, int n) {
    if (!hasSheet(sheet) || !Sheet.canHave(bits)) {
      return fail(BEYOND);
    }
    if (bits == 0) {
      sheets[sheet].lose();
      return 1;
    }
    if (n < 0) {
      return fail(STATE);
    }
    if (n > Sheet.MOST) {
      return fail(BEYOND);
    }
    sheets[sheet].clear(bits, n);
    return 1;
  }

  public int put(int sheet, int i, int v) {
    if (!hasSheet(sheet)) {
      return fail(BEYOND);
    }
    Sheet target = sheets[sheet];
    if (target.isMissing()) {
      return fail(NONE);
    }
    if (!within(i, 0, target.size - 1)) {
      return fail(BEYOND);
    }
    target.write(i, v);
    return 1;
  }

  public int move(int sheet, int i, int other, int j, int n) {
    if (!hasSheet(sheet) || !hasSheet(other)) {
      return fail(BEYOND);
    }
    Sheet from = sheets[sheet];
    Sheet to = sheets[other];
    if (from.isMissing() || to.isMissing()) {
      return fail(NONE);
    }
    if (from.bits != to.bits) {
      return fail(KIND);
    }
    if (!from.hasPart(i, n) || !to.hasPart(j, n)) {
      return fail(BEYOND);
    }
    System.arraycopy(from.numbers, i, to.numbers, j, n);
    return n;
  }

  public int lets(int sheet) {
    if (!hasSheet(sheet)) {
      return fail(BEYOND);
    }
    Sheet windows = sheets[sheet];
    if (windows.isMissing()) {
      return fail(NONE);
    }
    int i = 0;
    for (; i < windows.size && now.hall.hasWindow(windows.numbers[i]); i++) {
      now.rayIn(beam, windows.numbers[i]);
    }
    return i;
  }

  public int judge(int sheet) {
    if (!hasSheet(sheet)) {
      return fail(BEYOND);
    }
    Sheet slants = sheets[sheet];
    if (slants.isMissing()) {
      return fail(NONE);
    }
    int squares = now.hall.squares();
    int both = Math.min(slants.size, squares);
    for (int i = 0; i < both; i++) {
      if (slants.numbers[i] != now.hall.slantOf(i)) {
        return i;
      }
    }
    return slants.size == squares ? -1 : both;
  }

  public int image() {
    kept.copyFrom(now);
    timesKept++;
    return timesKept;
  }

  public int restore() {
    if (timesKept == 0) {
      return fail(NONE);
    }
    now.copyFrom(kept);
    return now.day;
  }

  public int tell(int v) {
    return now.addWaiting(v) ? now.waiting : fail(FULL);
  }

  public int check() {
    int waiting = now.waiting;
    now.waiting = 0;
    trial.copyFrom(now.hall);
    for (int i = 0; i < waiting && i < now.waits.length; i++) {
      trial.standAs(now.hall);
      if (!now.hall.hasWindow(i) || beam.run(trial, i) != now.waits[i]) {
        return 1 + i;
      }
    }
    return 0;
  }

  public int count(int what) {
    switch (what) {
      case 0:
        return now.hall.rows;
      case 1:
        return now.hall.columns;
      case 2:
        return now.hall.windows();
      case 3:
        return now.hall.mirrors();
      case 4:
        return now.hall.litTogether();
      case 5:
        return now.takings;
      case 6:
        return now.day;
      case 7:
        return now.taped;
      case 8:
        return now.waiting;
      case 9:
        return speaker.begun;
      case 10:
        return now.z;
      default:
        return fail(BEYOND);
    }
  }

  public int told(int k) {
    return within(k, BEYOND, KIND) ? failures[k] : fail(BEYOND);
  }

  private int fail(int error) {
    if (within(error, BEYOND, KIND)) {
      failures[error]++;
    }
    return LOW - error;
  }

  private static boolean hasSheet(int sheet) {
    return within(sheet, 0, SHEETS - 1);
  }

  private static boolean within(int number, int least, int most) {
    return number >= least && number <= most;
  }

  private static int held(int number, int least, int most) {
    return Math.max(least, Math.min(most, number));
  }

  private static int quotient(int number, int by) {
    return by == 0 ? 0 : number / by;
  }

  private static int rest(int number, int by) {
    return by == 0 ? 0 : number % by;
  }

  /** The squares and how they stand: slants as bits, times two bits each, so that standings copy at once. */
  private static final class Hall {
    static final int KINDS = 7;
    static final int SQUARE = 0;
    static final int MIRROR = 1;
    static final int THRONE = 2;
    static final int CURTAIN = 3;
    static final int STUCK = 4;
    static final int SLOW = 5;
    static final int SEAT = 6;

    private static final int MOST_SQUARES = 25;
    private static final int MOST_LIT = 9999;
    private static final int[] ABOVE = {-1, SQUARE, SQUARE, SQUARE, MIRROR, MIRROR, THRONE};

    int rows = 1;
    int columns = 1;
    final int[] kinds = new int[MOST_SQUARES];
    final int[] numbers = new int[MOST_SQUARES];
    final int[] lit = new int[MOST_SQUARES];
    int slants = 0;
    long times = 0;

    static int above(int kind) {
      return within(kind, 0, ABOVE.length - 1) ? ABOVE[kind] : -1;
    }

    static boolean isOf(int kind, int wanted) {
      int climbed = kind;
      for (int i = 0; i < KINDS && climbed >= 0; i++) {
        if (climbed == wanted) {
          return true;
        }
        climbed = above(climbed);
      }
      return false;
    }

    static boolean throwsRays(int kind) {
      return kind == MIRROR || kind == STUCK || kind == SLOW;
    }

    static boolean stopsRays(int kind) {
      return kind == CURTAIN || kind == SEAT;
    }

    int squares() {
      return rows * columns;
    }

    int windows() {
      return 2 * (rows + columns);
    }

    boolean hasSquare(int square) {
      return within(square, 0, squares() - 1);
    }

    boolean hasWindow(int window) {
      return within(window, 0, windows() - 1);
    }

    boolean hasMask(int mask) {
      return within(mask, 0, (1 << squares()) - 1);
    }

    boolean isSizedAs(Hall other) {
      return rows == other.rows && columns == other.columns;
    }

    void clear(int newRows, int newColumns) {
      rows = newRows;
      columns = newColumns;
      Arrays.fill(kinds, SQUARE);
      Arrays.fill(numbers, 0);
      Arrays.fill(lit, 0);
      slants = 0;
      times = 0;
    }

    void copyFrom(Hall other) {
      rows = other.rows;
      columns = other.columns;
      System.arraycopy(other.kinds, 0, kinds, 0, MOST_SQUARES);
      System.arraycopy(other.numbers, 0, numbers, 0, MOST_SQUARES);
      System.arraycopy(other.lit, 0, lit, 0, MOST_SQUARES);
      standAs(other);
    }

    void standAs(Hall other) {
      stand(other.slants, other.times);
    }

    void stand(int newSlants, long newTimes) {
      slants = newSlants;
      times = newTimes;
    }

    boolean standsAs(Hall other) {
      return slants == other.slants && times == other.times;
    }

    void become(int square, int kind, int number, int slant) {
      kinds[square] = kind;
      numbers[square] = number;
      slants = slants & ~(1 << square) | slant << square;
      putTime(square, 0);
    }

    int slantOf(int square) {
      return slants >>> square & 1;
    }

    int timeOf(int square) {
      return (int) (times >>> 2 * square & 3L);
    }

    private void putTime(int square, int time) {
      times = times & ~(3L << 2 * square) | (long) time << 2 * square;
    }

    boolean handCan(int square) {
      return kinds[square] == MIRROR || kinds[square] == SLOW;
    }

    void flip(int square) {
      slants ^= 1 << square;
    }

    private int slowness(int square) {
      return 2 + numbers[square] % 3;
    }

    void turnByRay(int square) {
      if (kinds[square] == MIRROR) {
        flip(square);
      } else if (kinds[square] == SLOW) {
        int time = timeOf(square) + 1;
        boolean due = time == slowness(square);
        putTime(square, due ? 0 : time);
        if (due) {
          flip(square);
        }
      }
    }

    void turnBack(int square) {
      if (kinds[square] == MIRROR) {
        flip(square);
      } else if (kinds[square] == SLOW) {
        int time = timeOf(square);
        putTime(square, time == 0 ? slowness(square) - 1 : time - 1);
        if (time == 0) {
          flip(square);
        }
      }
    }

    void lightUp(int square) {
      lit[square] = Math.min(MOST_LIT, lit[square] + 1);
    }

    void lightDown(int square) {
      lit[square] = Math.max(0, lit[square] - 1);
    }

    int mirrors() {
      int found = 0;
      for (int i = 0; i < squares(); i++) {
        found += throwsRays(kinds[i]) ? 1 : 0;
      }
      return found;
    }

    int litTogether() {
      int sum = 0;
      for (int i = 0; i < squares(); i++) {
        sum += lit[i];
      }
      return sum;
    }
  }

  /** A ray on its way through a hall: it changes the hall it is given. */
  private static final class Beam {
    static final int STOPPED = 100;
    private static final int MOST_STEPS = 5000;
    private static final int NORTH = 0;
    private static final int EAST = 1;
    private static final int SOUTH = 2;
    private static final int WEST = 3;

    private int row = 0;
    private int column = 0;
    private int heading = NORTH;
    int steps = 0;
    int thrown = 0;
    int seen = 0;
    private int watched = -1;
    private int squareWatched = -1;

    int run(Hall hall, int window) {
      enter(hall, window);
      thrown = 0;
      seen = 0;
      for (int i = 0; i < MOST_STEPS; i++) {
        int square = row * hall.columns + column;
        if (i == watched) {
          squareWatched = square;
        }
        steps = i + 1;
        seen |= 1 << square;
        hall.lightUp(square);
        int kind = hall.kinds[square];
        if (Hall.stopsRays(kind)) {
          return STOPPED;
        }
        if (Hall.throwsRays(kind)) {
          bend(hall.slantOf(square));
          thrown++;
          hall.turnByRay(square);
        }
        goOn();
        if (isOutside(hall)) {
          return windowHere(hall);
        }
      }
      return STOPPED;
    }

    /** The window where a ray was let in that came out by this one last; STOPPED if that can't be. */
    int runBack(Hall hall, int window) {
      enter(hall, window);
      for (int i = 0; i < MOST_STEPS; i++) {
        int square = row * hall.columns + column;
        int kind = hall.kinds[square];
        if (Hall.stopsRays(kind)) {
          return STOPPED;
        }
        hall.lightDown(square);
        if (Hall.throwsRays(kind)) {
          // It was thrown ahead of the turn: the turn is undone first.
          hall.turnBack(square);
          bend(hall.slantOf(square));
        }
        goOn();
        if (isOutside(hall)) {
          return windowHere(hall);
        }
      }
      return STOPPED;
    }

    int squareOnWay(Hall hall, int window, int i) {
      watched = i;
      squareWatched = -1;
      run(hall, window);
      watched = -1;
      return squareWatched;
    }

    private void enter(Hall hall, int window) {
      if (window < hall.columns) {
        start(0, window, SOUTH);
      } else if (window < hall.columns + hall.rows) {
        start(window - hall.columns, hall.columns - 1, WEST);
      } else if (window < 2 * hall.columns + hall.rows) {
        start(hall.rows - 1, window - hall.columns - hall.rows, NORTH);
      } else {
        start(window - 2 * hall.columns - hall.rows, 0, EAST);
      }
    }

    private void start(int atRow, int atColumn, int going) {
      row = atRow;
      column = atColumn;
      heading = going;
    }

    private void bend(int slant) {
      // With the four headings numbered around, each slant swaps them in pairs.
      heading = slant == 0 ? heading ^ 1 : WEST - heading;
    }

    private void goOn() {
      switch (heading) {
        case NORTH:
          row--;
          break;
        case EAST:
          column++;
          break;
        case SOUTH:
          row++;
          break;
        default:
          column--;
          break;
      }
    }

    private boolean isOutside(Hall hall) {
      return row < 0 || row >= hall.rows || column < 0 || column >= hall.columns;
    }

    private int windowHere(Hall hall) {
      if (row < 0) {
        return column;
      }
      if (column >= hall.columns) {
        return hall.columns + row;
      }
      return row >= hall.rows ? hall.columns + hall.rows + column : 2 * hall.columns + hall.rows + row;
    }
  }

  /** Reads a text by the document's grammar, into signs in the order in which they are worked out. */
  private static final class Reader {
    static final int FAULTLESS = -1;
    /** Signs in code: numbers stand as they are, names below 0, joining signs above this. */
    static final int JOINS = 10000;

    private static final int END = -1;
    private static final int MOST_OPEN = 5;
    private static final int COMPARED = 2;
    private static final int PRODUCT = 4;
    private static final int NAMES_EACH = 3;
    private static final char[] NAMES = {'r', 'c', 'm', 'i', 'o', 't'};

    final int[] code = new int[Whole.MOST_TAPED];
    int length = 0;
    private final int[] bytes = new int[Whole.MOST_TAPED];
    private int size = 0;
    private int place = 0;
    private int use = 0;
    private boolean faulty = false;

    int faultIn(int[] tape, int taped, int newUse) {
      size = held(taped, 0, Math.min(tape.length, bytes.length));
      System.arraycopy(tape, 0, bytes, 0, size);
      use = newUse;
      place = 0;
      length = 0;
      faulty = false;
      readJoined(0, 0);
      return faulty || place < size ? place : FAULTLESS;
    }

    /** Levels: 0 joins by |, 1 by &, 2 by one of < = >, 3 by + -, 4 by * / %. */
    private void readJoined(int level, int open) {
      readPart(level + 1, open);
      for (int i = 0; i < size && !faulty && joinsAt(level, peek()); i++) {
        int sign = peek();
        place++;
        readPart(level + 1, open);
        write(JOINS + sign);
        if (level == COMPARED) {
          return;
        }
      }
    }

    private void readPart(int level, int open) {
      if (level > PRODUCT) {
        readLeaf(open);
      } else {
        readJoined(level, open);
      }
    }

    private void readLeaf(int open) {
      int sign = peek();
      if (isDigit(sign)) {
        readNumber();
      } else if (sign == '!' || sign == '(') {
        readOpened(sign, open);
      } else {
        readName(sign);
      }
    }

    private void readNumber() {
      int value = 0;
      for (int digits = 0; digits < 4 && isDigit(peek()); digits++) {
        value = value * 10 + peek() - '0';
        place++;
      }
      write(value);
    }

    private void readName(int sign) {
      for (int i = 0; i < NAMES_EACH; i++) {
        int at = use * NAMES_EACH + i;
        if (within(at, 0, NAMES.length - 1) && NAMES[at] == sign) {
          place++;
          write(-1 - i);
          return;
        }
      }
      faulty = true;
    }

    private void readOpened(int sign, int open) {
      if (open >= MOST_OPEN) {
        faulty = true;
        return;
      }
      place++;
      if (sign == '!') {
        readLeaf(open + 1);
        write(JOINS + sign);
        return;
      }
      readJoined(0, open + 1);
      if (faulty || peek() != ')') {
        faulty = true;
        return;
      }
      place++;
    }

    private static boolean joinsAt(int level, int sign) {
      switch (sign) {
        case '|':
          return level == 0;
        case '&':
          return level == 1;
        case '<':
        case '=':
        case '>':
          return level == COMPARED;
        case '+':
        case '-':
          return level == PRODUCT - 1;
        case '*':
        case '/':
        case '%':
          return level == PRODUCT;
        default:
          return false;
      }
    }

    private static boolean isDigit(int sign) {
      return sign >= '0' && sign <= '9';
    }

    private int peek() {
      return place >= 0 && place < size ? bytes[place] : END;
    }

    private void write(int sign) {
      if (length < code.length) {
        code[length] = sign;
        length++;
      }
    }
  }

  /** What a use gives: by its text, or without one. */
  private static final class Law {
    static final int HAND = 0;
    private static final int MOST_GIVEN = 99;

    private final int use;
    private final int[] code = new int[Whole.MOST_TAPED];
    private int length = 0;
    private final int[] stack = new int[Whole.MOST_TAPED];

    Law(int newUse) {
      use = newUse;
    }

    void learn(int[] newCode, int newLength) {
      length = held(newLength, 0, Math.min(code.length, newCode.length));
      System.arraycopy(newCode, 0, code, 0, length);
    }

    void copyFrom(Law other) {
      learn(other.code, other.length);
    }

    int gives(int a, int b, int c) {
      int least = use == HAND ? 0 : -MOST_GIVEN;
      return held(length == 0 ? withoutText(c) : worked(a, b, c), least, MOST_GIVEN);
    }

    private int withoutText(int c) {
      return use == HAND ? 5 + c : 0;
    }

    private int worked(int a, int b, int c) {
      int top = -1;
      for (int i = 0; i < length; i++) {
        int sign = code[i];
        if (sign < Reader.JOINS) {
          top++;
          if (top >= stack.length) {
            return 0;
          }
          stack[top] = sign >= 0 ? sign : sign == -1 ? a : sign == -2 ? b : c;
        } else if (sign == Reader.JOINS + '!') {
          if (top < 0) {
            return 0;
          }
          stack[top] = stack[top] == 0 ? 1 : 0;
        } else {
          if (top < 1) {
            return 0;
          }
          top--;
          stack[top] = joined(sign - Reader.JOINS, stack[top], stack[top + 1]);
        }
      }
      return top < 0 ? 0 : stack[top];
    }

    private static int joined(int sign, int a, int b) {
      switch (sign) {
        case '|':
          return a != 0 || b != 0 ? 1 : 0;
        case '&':
          return a != 0 && b != 0 ? 1 : 0;
        case '<':
          return a < b ? 1 : 0;
        case '=':
          return a == b ? 1 : 0;
        case '>':
          return a > b ? 1 : 0;
        case '+':
          return a + b;
        case '-':
          return a - b;
        case '*':
          return a * b;
        case '/':
          return b == 0 ? 0 : a / b;
        default:
          return b == 0 ? 0 : a % b;
      }
    }
  }

  /** All that an image keeps. */
  private static final class Whole {
    static final int MOST_TAPED = 50;
    private static final int MOST_WAITING = 20;
    private static final int MOST_TAKINGS = 99999;

    final Hall hall = new Hall();
    private final Law handLaw = new Law(0);
    private final Law betLaw = new Law(1);
    final int[] tape = new int[MOST_TAPED];
    int taped = 0;
    final int[] waits = new int[MOST_WAITING];
    int waiting = 0;
    int takings = 0;
    int day = 0;
    int z = 1;

    void copyFrom(Whole other) {
      hall.copyFrom(other.hall);
      handLaw.copyFrom(other.handLaw);
      betLaw.copyFrom(other.betLaw);
      System.arraycopy(other.tape, 0, tape, 0, MOST_TAPED);
      taped = other.taped;
      System.arraycopy(other.waits, 0, waits, 0, MOST_WAITING);
      waiting = other.waiting;
      takings = other.takings;
      day = other.day;
      z = other.z;
    }

    Law lawOf(int use) {
      return use == Law.HAND ? handLaw : betLaw;
    }

    boolean feedBytes(long word, int n) {
      if (n > MOST_TAPED - taped) {
        return false;
      }
      for (int i = 0; i < n; i++) {
        tape[taped] = (int) (word >>> 8 * i & 255L);
        taped++;
      }
      return true;
    }

    boolean addWaiting(int number) {
      if (waiting >= MOST_WAITING) {
        return false;
      }
      waits[waiting] = number;
      waiting++;
      return true;
    }

    int handCost(int square) {
      int row = quotient(square, hall.columns);
      int column = rest(square, hall.columns);
      return handLaw.gives(row, column, hall.numbers[square]);
    }

    boolean handTurns(int square) {
      if (!hall.handCan(square)) {
        return false;
      }
      earn(-handCost(square));
      hall.flip(square);
      return true;
    }

    int rayIn(Beam beam, int window) {
      int reached = beam.run(hall, window);
      earn(betLaw.gives(window, reached, beam.thrown));
      return reached;
    }

    void liveDay(Beam beam) {
      int square = rest(draw(), hall.squares());
      int window = rest(draw(), hall.windows());
      handTurns(square);
      rayIn(beam, window);
      day++;
    }

    private int draw() {
      z = z * 1103515245 + 12345;
      return z >>> 8;
    }

    private void earn(int amount) {
      takings = held(takings + amount, -MOST_TAKINGS, MOST_TAKINGS);
    }
  }

  /** A row of numbers of so many bits; none while it is missing. */
  private static final class Sheet {
    static final int MOST = 40;

    int bits = 0;
    int size = 0;
    final int[] numbers = new int[MOST];

    static boolean canHave(int bits) {
      return bits == 0 || bits == 8 || bits == 16 || bits == 32;
    }

    boolean isMissing() {
      return bits == 0;
    }

    void lose() {
      bits = 0;
      size = 0;
    }

    void clear(int newBits, int newSize) {
      bits = newBits;
      size = newSize;
      Arrays.fill(numbers, 0);
    }

    void write(int i, int v) {
      numbers[i] = bits == 32 ? v : v & (1 << bits) - 1;
    }

    boolean hasPart(int from, int n) {
      return n >= 0 && within(from, 0, size) && n <= size - from;
    }
  }

  /** The bodies of the kinds: each act is worked out by that of the kind, or of the next kind above. */
  private static final class Voice {
    static final int ACTS = 4;
    private static final int CASTS = 0;
    private static final int TURNS = 1;
    private static final int LIGHTS = 2;
    private static final int TELLS = 3;
    private static final int MOST_BEGUN = 40;
    private static final int MOST_OPEN = 40;
    /** By kind, then by act; 0 where a kind has no body of its own. */
    private static final int[] BODIES = {
      10, 11, 12, 13,
      0, 20, 0, 0,
      30, 0, 0, 0,
      0, 0, 40, 0,
      0, 50, 0, 0,
      0, 0, 0, 60,
      0, 0, 70, 71,
    };

    final int[] bodies = new int[MOST_BEGUN];
    int begun = 0;
    private int kind = 0;
    private int number = 0;
    private int told = 0;

    int speakFor(Hall hall, int square, int act, int x) {
      kind = hall.kinds[square];
      number = square;
      told = hall.numbers[square];
      begun = 0;
      return spoken(kind, act, x, 0);
    }

    private int spoken(int from, int act, int x, int open) {
      int body = bodyOf(from, act);
      if (body == 0 || open > MOST_OPEN) {
        return 0;
      }
      if (begun < MOST_BEGUN) {
        bodies[begun] = body;
        begun++;
      }
      return worked(body, x, open + 1);
    }

    private int worked(int body, int x, int open) {
      switch (body) {
        case 10:
          return x + number;
        case 11:
          return own(CASTS, x, open) * 2;
        case 12:
          return x - told;
        case 13:
          return own(TURNS, x, open) ^ own(LIGHTS, x, open);
        case 20:
          return above(Hall.MIRROR, TURNS, x, open) - own(LIGHTS, 1, open);
        case 30:
          return above(Hall.THRONE, CASTS, x, open) * 3;
        case 40:
          return -above(Hall.CURTAIN, LIGHTS, x, open);
        case 50:
          return above(Hall.STUCK, TURNS, x + 1, open);
        case 60:
          return above(Hall.SLOW, TELLS, x, open) - own(CASTS, 2, open);
        case 70:
          return above(Hall.SEAT, LIGHTS, x, open) ^ number;
        default:
          return own(TURNS, x, open) - above(Hall.SEAT, TELLS, x, open);
      }
    }

    private int own(int act, int x, int open) {
      return spoken(kind, act, x, open);
    }

    private int above(int owner, int act, int x, int open) {
      return spoken(Hall.above(owner), act, x, open);
    }

    private static int bodyOf(int from, int act) {
      int climbed = from;
      for (int i = 0; i < Hall.KINDS && climbed >= 0; i++) {
        int at = climbed * ACTS + act;
        if (within(at, 0, BODIES.length - 1) && BODIES[at] != 0) {
          return BODIES[at];
        }
        climbed = Hall.above(climbed);
      }
      return 0;
    }
  }

  /** What rays would bring, tried out in a hall of its own. */
  private static final class Foresight {
    static final int MOST_BACK = 3;
    static final int MOST_HAD = 200;
    private static final int MOST_ROUND = 400;

    private final Hall trial = new Hall();
    private final Beam beam = new Beam();
    final int[] row = new int[MOST_BACK];
    private final int[] slantsBefore = new int[MOST_BACK];
    private final long[] timesBefore = new long[MOST_BACK];
    private final int[] slantsHad = new int[MOST_HAD + 1];
    private final long[] timesHad = new long[MOST_HAD + 1];
    private int had = 0;
    int longestWindow = 0;
    int longestSteps = 0;

    /** 0: not by as many as may be tried. */
    int raysRound(Hall hall, int window) {
      trial.copyFrom(hall);
      for (int i = 1; i <= MOST_ROUND; i++) {
        beam.run(trial, window);
        if (trial.standsAs(hall)) {
          return i;
        }
      }
      return 0;
    }

    /** -1: not by as many as may be tried. */
    int raysBack(Hall hall, Hall goal) {
      for (int rays = 0; rays <= MOST_BACK; rays++) {
        trial.copyFrom(hall);
        if (leads(0, rays, goal)) {
          return rays;
        }
      }
      return -1;
    }

    private boolean leads(int at, int rays, Hall goal) {
      return at >= rays || at >= MOST_BACK ? trial.standsAs(goal) : leadsByWindow(at, rays, goal);
    }

    private boolean leadsByWindow(int at, int rays, Hall goal) {
      slantsBefore[at] = trial.slants;
      timesBefore[at] = trial.times;
      for (int window = 0; window < trial.windows(); window++) {
        trial.stand(slantsBefore[at], timesBefore[at]);
        beam.run(trial, window);
        row[at] = window;
        if (leads(at + 1, rays, goal)) {
          return true;
        }
      }
      return false;
    }

    /** More than MOST_HAD: there are more, how many is open. */
    int standings(Hall hall) {
      trial.copyFrom(hall);
      had = 0;
      note();
      for (int i = 0; i <= MOST_HAD && i < had; i++) {
        for (int window = 0; window < trial.windows() && had <= MOST_HAD; window++) {
          trial.stand(slantsHad[i], timesHad[i]);
          beam.run(trial, window);
          note();
        }
      }
      return had;
    }

    private void note() {
      for (int i = 0; i < had && i < slantsHad.length; i++) {
        if (slantsHad[i] == trial.slants && timesHad[i] == trial.times) {
          return;
        }
      }
      if (had < slantsHad.length) {
        slantsHad[had] = trial.slants;
        timesHad[had] = trial.times;
        had++;
      }
    }

    void findLongest(Hall hall) {
      longestWindow = 0;
      longestSteps = 0;
      trial.copyFrom(hall);
      for (int window = 0; window < hall.windows(); window++) {
        trial.standAs(hall);
        beam.run(trial, window);
        if (beam.steps > longestSteps) {
          longestSteps = beam.steps;
          longestWindow = window;
        }
      }
    }
  }

  /** The hands by which a square is lit: the fewest, then the cheapest, then the least squares. */
  private static final class Hands {
    private final Hall trial = new Hall();
    private final Beam beam = new Beam();
    private int goal = 0;
    private int window = 0;
    int needed = 0;
    int squares = -1;
    int cost = 0;

    boolean lead(Whole whole, int newGoal, int newWindow) {
      goal = newGoal;
      window = newWindow;
      needed = 0;
      squares = -1;
      cost = 0;
      trial.copyFrom(whole.hall);
      return isLit(whole.hall, 0) || leadByOne(whole) || leadByTwo(whole);
    }

    private boolean isLit(Hall hall, int turned) {
      trial.stand(hall.slants ^ turned, hall.times);
      beam.run(trial, window);
      return (beam.seen >>> goal & 1) == 1;
    }

    private boolean leadByOne(Whole whole) {
      Hall hall = whole.hall;
      for (int i = 0; i < hall.squares(); i++) {
        if (hall.handCan(i) && isLit(hall, 1 << i)) {
          offer(1, 100 * i + i, whole.handCost(i));
        }
      }
      return needed > 0;
    }

    private boolean leadByTwo(Whole whole) {
      Hall hall = whole.hall;
      for (int i = 0; i < hall.squares(); i++) {
        for (int j = i + 1; j < hall.squares() && hall.handCan(i); j++) {
          if (hall.handCan(j) && isLit(hall, 1 << i | 1 << j)) {
            offer(2, 100 * i + j, whole.handCost(i) + whole.handCost(j));
          }
        }
      }
      return needed > 0;
    }

    /** Offers come with rising squares: of equal costs the first one stays. */
    private void offer(int hands, int atSquares, int atCost) {
      if (needed == 0 || atCost < cost) {
        needed = hands;
        squares = atSquares;
        cost = atCost;
      }
    }
  }

  /** What comes out if the slants of some mirrors aren't known. */
  private static final class Doubt {
    private static final int MOST_UNKNOWN = 5;
    private static final int MOST_WINDOWS = 20;

    private final Hall trial = new Hall();
    private final Beam beam = new Beam();
    private final int[] unknown = new int[MOST_UNKNOWN];
    private int unknowns = 0;
    private int slantsKnown = 0;
    private long timesKnown = 0;
    private final int[] outsSeen = new int[MOST_WINDOWS];
    int above = 0;
    int below = 1;
    int tellingWindow = 0;
    int tellingOuts = 0;

    void suppose(Hall hall, int mask) {
      trial.copyFrom(hall);
      slantsKnown = hall.slants;
      timesKnown = hall.times;
      unknowns = 0;
      for (int i = 0; i < hall.squares() && unknowns < MOST_UNKNOWN; i++) {
        if ((mask >>> i & 1) == 1 && Hall.throwsRays(hall.kinds[i])) {
          unknown[unknowns] = i;
          unknowns++;
        }
      }
    }

    private int choices() {
      return 1 << unknowns;
    }

    private void standBy(int choice) {
      int slants = slantsKnown;
      for (int i = 0; i < unknowns; i++) {
        slants = slants & ~(1 << unknown[i]) | (choice >>> i & 1) << unknown[i];
      }
      trial.stand(slants, timesKnown);
    }

    void weigh(int window, int out) {
      above = 0;
      below = choices();
      for (int choice = 0; choice < choices(); choice++) {
        standBy(choice);
        above += beam.run(trial, window) == out ? 1 : 0;
      }
      // The number below is a power of two: only halves can be cut.
      for (int i = 0; i < MOST_UNKNOWN && ((above | below) & 1) == 0; i++) {
        above /= 2;
        below /= 2;
      }
    }

    boolean canRead(Sheet letters, Hall hall) {
      for (int i = 0; i + 1 < letters.size; i += 2) {
        int out = letters.numbers[i + 1];
        boolean isOut = hall.hasWindow(out) || out == Beam.STOPPED;
        if (!hall.hasWindow(letters.numbers[i]) || !isOut) {
          return false;
        }
      }
      return !letters.isMissing();
    }

    int fitting(Sheet letters) {
      int found = 0;
      for (int choice = 0; choice < choices(); choice++) {
        found += isFitting(letters, choice) ? 1 : 0;
      }
      return found;
    }

    /** Leaves the hall on trial as it stands behind the letters' rays, if the choice fits them. */
    private boolean isFitting(Sheet letters, int choice) {
      standBy(choice);
      for (int i = 0; i + 1 < letters.size; i += 2) {
        if (beam.run(trial, letters.numbers[i]) != letters.numbers[i + 1]) {
          return false;
        }
      }
      return true;
    }

    boolean findTelling(Sheet letters) {
      boolean anyFits = false;
      Arrays.fill(outsSeen, 0);
      for (int choice = 0; choice < choices(); choice++) {
        if (isFitting(letters, choice)) {
          anyFits = true;
          noteOuts();
        }
      }
      tellingWindow = 0;
      tellingOuts = 0;
      for (int window = 0; window < trial.windows() && window < MOST_WINDOWS; window++) {
        int outs = Integer.bitCount(outsSeen[window]);
        if (outs > tellingOuts) {
          tellingOuts = outs;
          tellingWindow = window;
        }
      }
      return anyFits;
    }

    private void noteOuts() {
      int slants = trial.slants;
      long times = trial.times;
      for (int window = 0; window < trial.windows() && window < MOST_WINDOWS; window++) {
        trial.stand(slants, times);
        outsSeen[window] |= 1 << Math.min(MOST_WINDOWS, beam.run(trial, window));
      }
    }
  }
}
