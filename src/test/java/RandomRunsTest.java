import java.util.ArrayList;
import java.util.Arrays;
import java.util.List;

/** Runs of random calls: the program answers as the plain one does. */
public final class RandomRunsTest {
  private static final int RUNS = 400;
  private static final int CALLS = 511;

  public static void main(String[] args) {
    int wrong = 0;
    for (int run = 0; run < RUNS; run++) {
      wrong += isGood(run) ? 0 : 1;
    }
    System.out.println(wrong == 0 ? "all runs are as due" : wrong + " runs are not as due");
    System.exit(wrong == 0 ? 0 : 1);
  }

  private static boolean isGood(int run) {
    Calls program = new Calls(new TurnedBeam());
    Calls plain = new Calls(new Plain());
    RandomCalls calls = new RandomCalls(run, run % 4 == 0 ? 20 : 2, run % 5 == 0);
    List<String> told = new ArrayList<>();
    int filled = 0;
    if (run % 3 > 0) {
      int side = run % 3 == 1 ? 5 : 3;
      program.answer("hall", side, side);
      plain.answer("hall", side, side);
      filled = side * side;
    }
    for (int i = 0; i < CALLS; i++) {
      if (i < filled) {
        calls.fill(i);
      } else {
        calls.next((int) plain.answer("count", 0), (int) plain.answer("count", 1));
      }
      long due = plain.answer(calls.name, calls.numbers);
      long got = program.answer(calls.name, calls.numbers);
      told.add(calls.name + Arrays.toString(calls.numbers) + " -> " + got);
      if (got != due) {
        System.out.println("run " + run + ", due is " + due + ", in the last of " + told);
        return false;
      }
    }
    return true;
  }
}
