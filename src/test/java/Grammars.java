/** Grammars that several tests use. */
final class Grammars {
  /** Brackets: 6 opens, 7 closes, and nothing stands in the innermost. */
  static final int[][] BRACKETS = {{0, 6, 0, 7}, {0}};

  /** Sixes in pairs of parts: as many trees as there are ways to set brackets. */
  static final int[][] PAIRS = {{0, 0, 0}, {0, 6}};

  /** 59 states by the first ten rules, and with the eleventh 60; the last two bring none. */
  static final int[][] SIXTY = {{0, 6, 6, 1, 6}, {2, 6, 0, 1, 6}, {0, 6, 6, 6, 2}, {0, 6, 1, 2, 1},
      {2, 6, 6, 2, 6}, {2, 6, 1, 6, 6}, {0, 0, 6, 0, 1}, {2, 6, 6, 6, 1}, {1, 1, 0, 6, 1}, {1, 6, 6, 1, 6},
      {2, 6, 2, 6, 2}, {1}, {2}};

  /** 29 states: all but the rules 8, 9 and 10 of SIXTY. */
  static final int[][] FROM_29 = {{0, 6, 6, 1, 6}, {2, 6, 0, 1, 6}, {0, 6, 6, 6, 2}, {0, 6, 1, 2, 1},
      {2, 6, 6, 2, 6}, {2, 6, 1, 6, 6}, {0, 0, 6, 0, 1}, {2, 6, 6, 6, 1}, {1}, {2}};

  /** Rules that would bring SIXTY to 61 and to 76 states. */
  static final int[] TO_61 = {0, 6, 2, 6, 6};
  static final int[] TO_76 = {1, 6, 6, 0, 2};

  /** Fourteen rules, the most there can be; each of the makers 1, 2 and 3 is any of the words. */
  static final int[][] FOURTEEN = {{0, 1, 2}, {0, 1, 3}, {1, 6}, {1, 7}, {1, 8}, {1, 9}, {2, 6}, {2, 7}, {2, 8},
      {2, 9}, {3, 6}, {3, 7}, {3, 8}, {3, 9}};

  /**
   * Of n sixes maker 1 has 10 to the n trees but one: maker 4 is empty in 9 trees, and maker 2 has one tree
   * for any row of sixes, so there are ten times as many as for one six less, and 9 more.
   */
  static final int[][] BILLION_BUT_ONE = {{0, 1}, {1, 6, 4, 1}, {1, 6, 1}, {1, 6, 4, 2}, {2, 6, 2}, {2}, {3}, {3, 5},
      {4, 3, 3, 3}, {4}, {5}};

  /**
   * Maker 3 is empty in 10 trees, whose rows are in TENS; maker 2 in 1000, maker 1 in 1000000000: the digits
   * of a tree's number are the numbers of its trees for maker 3.
   */
  static final int[][] DIGITS = {{0, 1, 6}, {1, 2, 2, 2}, {2, 3, 3, 3}, {3, 4, 4, 4}, {3, 4}, {4}, {4, 5}, {5}};

  static final int[][] TENS = {{3, 5, 5, 5}, {3, 5, 5, 6, 7}, {3, 5, 6, 7, 5}, {3, 5, 6, 7, 6, 7},
      {3, 6, 7, 5, 5}, {3, 6, 7, 5, 6, 7}, {3, 6, 7, 6, 7, 5}, {3, 6, 7, 6, 7, 6, 7}, {4, 5}, {4, 6, 7}};

  /** Long rows: 1365 rules for the empty text, and 683 more for each six. */
  static final int[][] LONG = {{0, 1, 1, 1, 1}, {1, 2, 2, 2, 2}, {2, 3, 3, 3, 3}, {3, 4, 4, 4, 4}, {4, 5, 5, 5, 5},
      {5}, {0, 6, 0, 1, 1}};

  private Grammars() {}

  /** The row of maker 1's empty tree with this number in DIGITS, behind a head that is given. */
  static int[] digits(int number, int... head) {
    int[] row = java.util.Arrays.copyOf(head, 200);
    int size = head.length;
    row[size++] = 1;
    int unit = 100000000;
    for (int n = 0; n < 9; n++, unit /= 10) {
      if (n % 3 == 0) {
        row[size++] = 2;
      }
      for (int rule : TENS[number / unit % 10]) {
        row[size++] = rule;
      }
    }
    return java.util.Arrays.copyOf(row, size);
  }
}
