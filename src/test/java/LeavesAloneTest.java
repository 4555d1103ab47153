import java.util.ArrayList;
import java.util.Arrays;
import java.util.LinkedHashMap;
import java.util.List;
import java.util.Map;
import java.util.function.Function;
import java.util.function.Supplier;

/** Each act that is no ERROR changes what its promise tells, and leaves all else as it is. */
public final class LeavesAloneTest {
  private static final Due due = new Due();
  /** Parts by name; some are read by acts that change others, so each is asked of an object of its own. */
  private static final Map<String, Function<TurnedBeam, String>> PARTS = parts();

  public static void main(String[] args) {
    due.part("promises 2 to 7");
    changes("hall 3 2", "SIZE", "KINDS", "SLANTS", "TIMES", "LIT");
    changes("hall 2 3", "KINDS", "SLANTS", "TIMES", "LIT");
    changes("square 2 60 1", "KINDS", "TIMES");
    changes("square 1 42 0", "KINDS", "SLANTS");
    changes("hand 0", "SLANTS", "TAKINGS");
    changes("hand 2", "SLANTS", "TAKINGS");
    for (String call : new String[] {"ofSquare 0 0", "ofSquare 2 3", "ofSquare 0 5", "as 5 1", "slants"}) {
      changes(call);
    }
    due.part("promises 8 to 11");
    changes("let 0", "SLANTS", "LIT", "TAKINGS");
    changes("let 3", "TIMES", "LIT", "TAKINGS");
    changes("undo 3", "TIMES", "LIT");
    changes("undo 6", "SLANTS", "LIT");
    for (int w = 0; w < 10; w++) {
      for (String call : new String[] {"out W 0", "out W 1", "out W 2", "out W 3", "way W 0"}) {
        changes(call.replace("W", "" + w));
      }
    }
    due.part("promises 12 to 14");
    changes("feed 43 1", "TAPE");
    changes("text 0", "TAPE", "HAND");
    changes("text 1", "TAPE", "BET");
    changes("law 0 1 2 3");
    changes("law 1 1 2 3");
    foresight();
    days();
    sheets();
    images();
    due.end();
  }

  private static void foresight() {
    due.part("promises 15 to 22");
    changes("had");
    changes(LeavesAloneTest::oneRayOff, "back -1");
    changes(LeavesAloneTest::oneRayOff, "back 0");
    changes("throne 1 0 0");
    changes("longest 0");
    changes("longest 1");
    for (int w = 0; w < 10; w++) {
      for (String call : new String[] {"round W", "throne " + rich().way(w, 0) + " W 0", "odds 63 W 100 0", "odds 36 W 2 1"}) {
        changes(call.replace("W", "" + w));
      }
    }
    for (String call : new String[] {"fits 63 0", "fits 0 0", "tells 63 2 0", "tells 63 2 1"}) {
      changes(call);
    }
  }

  private static void days() {
    due.part("promises 23 to 26");
    changes("days 9", "SLANTS", "TIMES", "LIT", "TAKINGS", "DAY", "Z");
    changes("seed 5", "Z");
    changes("voice 0 1 1", "TRACE");
    changes("trace 0");
  }

  private static void sheets() {
    due.part("promises 27 to 31");
    for (int i = 0; i < 4; i++) {
      changes("sheet " + i + " 32 3", "SHEET " + i);
    }
    changes("sheet 0 0 0", "SHEET 0");
    changes("put 0 1 19", "SHEET 0");
    changes("put 1 1 19", "SHEET 1");
    changes("move 0 0 2 0 2", "SHEET 2");
    changes("move 2 0 0 0 2", "SHEET 0");
    changes("move 0 0 0 1 2", "SHEET 0");
    changes("lets 0", "SLANTS", "TIMES", "LIT", "TAKINGS");
    changes("judge 0");
    changes("judge 1");
  }

  private static void images() {
    due.part("promises 32 to 37");
    String[] kept = PARTS.keySet().stream().filter(name -> name.startsWith("KEPT")).toArray(String[]::new);
    changes("image", and(kept, "IMAGES"));
    changes("restore", "KINDS", "SLANTS", "TIMES", "LIT", "TAKINGS", "DAY", "Z", "TAPE", "HAND", "BET", "WAITING");
    changes("tell 0", "WAITING");
    changes("check", "WAITING");
    for (int i = 0; i <= 10; i++) {
      changes("count " + i);
    }
    for (int k = 1; k <= 5; k++) {
      changes("told " + k);
    }
    often();
  }

  private static void often() {
    due.part("promise 32: how often that was done");
    TurnedBeam x = new TurnedBeam();
    for (int i = 1; i <= 300; i++) {
      due.is("image()", x.image(), i);
    }
  }

  private static String[] and(String[] names, String one) {
    String[] all = Arrays.copyOf(names, names.length + 1);
    all[names.length] = one;
    return all;
  }

  private static void changes(String call, String... changed) {
    changes(LeavesAloneTest::rich, call, changed);
  }

  private static void changes(Supplier<TurnedBeam> made, String call, String... changed) {
    List<String> expected = Arrays.asList(changed);
    String[] words = call.split(" ");
    long[] numbers = Arrays.stream(words).skip(1).mapToLong(Long::parseLong).toArray();
    for (Map.Entry<String, Function<TurnedBeam, String>> part : PARTS.entrySet()) {
      TurnedBeam asked = made.get();
      long answer = new Calls(asked).answer(words[0], numbers);
      due.is(call + " is no ERROR", answer < -1000000000 ? answer : 0, 0);
      boolean other = !part.getValue().apply(asked).equals(part.getValue().apply(made.get()));
      due.is(call + " changes " + part.getKey(), other ? 1 : 0, expected.contains(part.getKey()) ? 1 : 0);
    }
  }

  /** Something of all, the IMAGE being unlike in each part, and each ERROR told another number of times. */
  private static TurnedBeam rich() {
    TurnedBeam x = new TurnedBeam();
    for (int i = 0; i < 10; i++) {
      x.feed(0, 8);
    }
    x.text(0);
    x.image();
    x.hall(2, 3);
    int[] kms = {14, 41, 52, 30, 25, 7};
    for (int i = 0; i < kms.length; i++) {
      x.square(i, kms[i], i % 2);
    }
    Due.text(x, 0, "r*5+c+m+1");
    Due.text(x, 1, "i*7+o-t+5");
    x.seed(77);
    x.days(5);
    int[] outs = {2, 3, 0};
    for (int out : outs) {
      x.tell(out);
    }
    Due.feed(x, "m*3");
    x.image();
    x.text(0);
    Due.text(x, 1, "i+3");
    x.square(5, 19, 1);
    x.days(3);
    x.let(2);
    x.let(3);
    x.tell(7);
    Due.feed(x, "8+4");
    Due.sheet(x, 0, 8, 2, 1, 7, 1);
    Due.sheet(x, 1, 16, 5, 9);
    Due.sheet(x, 2, 8, 8, 100);
    x.voice(4, 3, 5);
    refuse(x);
    return x;
  }

  private static TurnedBeam oneRayOff() {
    TurnedBeam x = rich();
    x.image();
    x.undo(6);
    return x;
  }

  private static void refuse(TurnedBeam x) {
    x.let(99);
    for (int i = 0; i < 2; i++) {
      x.lets(3);
    }
    for (int i = 0; i < 3; i++) {
      x.hand(1);
    }
    for (int i = 0; i < 5; i++) {
      x.as(3, 1);
    }
  }

  private static Map<String, Function<TurnedBeam, String>> parts() {
    Map<String, Function<TurnedBeam, String>> all = new LinkedHashMap<>();
    all.put("SIZE", x -> x.count(0) + " by " + x.count(1));
    all.put("KINDS", x -> squares(x, 0) + squares(x, 1));
    all.put("SLANTS", x -> squares(x, 2));
    all.put("TIMES", x -> squares(x, 3));
    all.put("LIT", x -> squares(x, 4));
    all.put("TAKINGS", x -> "" + x.count(5));
    all.put("DAY", x -> "" + x.count(6));
    all.put("Z", x -> "" + x.count(10));
    all.put("TAPE", x -> x.count(7) + ", as a text " + x.text(0) + ", gives " + law(x, 0));
    all.put("HAND", x -> law(x, 0));
    all.put("BET", x -> law(x, 1));
    all.put("WAITING", x -> x.count(8) + ", of a hall of one square " + (x.hall(1, 1) + x.check()));
    for (Map.Entry<String, Function<TurnedBeam, String>> part : new ArrayList<>(all.entrySet())) {
      if (!part.getKey().equals("SIZE")) {
        all.put("KEPT " + part.getKey(), x -> x.restore() + ", " + part.getValue().apply(x));
      }
    }
    for (int i = 0; i < 4; i++) {
      int sheet = i;
      all.put("SHEET " + i, x -> sheet(x, sheet));
    }
    all.put("TRACE", LeavesAloneTest::trace);
    all.put("IMAGES", x -> "" + x.image());
    all.put("TOLD", x -> x.told(1) + " " + x.told(2) + " " + x.told(3) + " " + x.told(4) + " " + x.told(5));
    return all;
  }

  private static String squares(TurnedBeam x, int what) {
    StringBuilder told = new StringBuilder();
    for (int i = 0; i < x.count(0) * x.count(1); i++) {
      told.append(x.ofSquare(i, what)).append(' ');
    }
    return told.toString();
  }

  private static String law(TurnedBeam x, int use) {
    return x.law(use, 1, 0, 0) + " " + x.law(use, 0, 1, 0) + " " + x.law(use, 0, 0, 1) + " " + x.law(use, 4, 2, 7);
  }

  private static String trace(TurnedBeam x) {
    StringBuilder told = new StringBuilder();
    for (int i = 0; i < x.count(9); i++) {
      told.append(x.trace(i)).append(' ');
    }
    return told.toString();
  }

  /** Its bits, and its numbers one by one: as windows at which rays are let in that bring the window and 1. */
  private static String sheet(TurnedBeam x, int sheet) {
    int other = (sheet + 1) % 4;
    int bits = 8;
    x.sheet(other, bits, 1);
    while (x.move(sheet, 0, other, 0, 0) == Due.KIND) {
      bits *= 2;
      x.sheet(other, bits, 1);
    }
    x.text(1);
    Due.text(x, 1, "i+1");
    x.hall(5, 5);
    StringBuilder told = new StringBuilder().append(bits).append(" bits");
    for (int i = 0; x.move(sheet, i, other, 0, 1) == 1; i++) {
      int before = x.count(5);
      x.lets(other);
      told.append(' ').append(x.count(5) - before);
    }
    return told.toString();
  }
}
