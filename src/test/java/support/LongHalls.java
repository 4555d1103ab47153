/** Halls in which a ray takes just so many steps, found by annealing, and the rays let in ahead of it. */
final class LongHalls {
  final TurnedBeam hall = new TurnedBeam();

  private LongHalls(String kinds, String numbers, String slants) {
    hall.hall(5, 5);
    for (int i = 0; i < 25; i++) {
      hall.square(i, 10 * (kinds.charAt(i) - '0') + numbers.charAt(i) - '0', slants.charAt(i) - '0');
    }
  }

  /** A ray at window 12 takes 5000 steps now, and comes out by window 8. */
  static LongHalls aheadOf5000() {
    LongHalls made = new LongHalls("4444045554454544514054144", "2212111221002220211222210", "0101010011010001101111100");
    return made.with(10, 6, 12);
  }

  /** A ray at window 17 would take 5001 steps now. */
  static LongHalls aheadOf5001() {
    return new LongHalls(KINDS_5001, NUMBERS_5001, SLANTS_5001).with(1, 17);
  }

  /**
   * A ray undone by window 17 would take 5001 steps now. With the slants of all mirrors that turn turned, a ray undone
   * goes as a ray goes without: so the hall is brought there by rays undone.
   */
  static LongHalls turnedAheadOf5001() {
    StringBuilder turned = new StringBuilder();
    for (int i = 0; i < 25; i++) {
      char slant = SLANTS_5001.charAt(i);
      turned.append(KINDS_5001.charAt(i) == '4' ? slant : slant == '0' ? '1' : '0');
    }
    LongHalls made = new LongHalls(KINDS_5001, NUMBERS_5001, turned.toString());
    made.hall.undo(1);
    made.hall.undo(17);
    return made;
  }

  private static final String KINDS_5001 = "4454044454114544554404444";
  private static final String NUMBERS_5001 = "0021102120201200200010120";
  private static final String SLANTS_5001 = "1011101111100001111101010";

  private LongHalls with(int... windows) {
    for (int window : windows) {
      hall.let(window);
    }
    return this;
  }
}
