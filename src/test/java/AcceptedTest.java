/** Promise 12: accepted. */
public final class AcceptedTest {
  private static final Checks checks = new Checks("AcceptedTest");

  public static void main(String[] args) {
    allOfTheText();
    makerZero();
    justThisWord();
    emptyText();
    partsMayBeEmpty();
    treesAreFinite();
    goingRound();
    fullText();
    checks.end();
  }

  private static boolean accepts(int[][] rules, int... words) {
    return checks.grammar(rules, words).accepted();
  }

  private static void allOfTheText() {
    checks.says("The text is ACCEPTED when maker 0 stands for all of it.");
    Subject x = checks.grammar(new int[][] {{0, 6, 0, 7}, {0, 8}});
    for (int w : new int[] {6, 6, 8, 7, 7}) {
      checks.due("accepted() too early", x.accepted(), false);
      checks.words(x, w);
    }
    checks.due("accepted()", x.accepted(), true);
    checks.words(x, 7);
    checks.due("accepted() with a word too many", x.accepted(), false);
    checks.due("accepted() with a word too many before", accepts(new int[][] {{0, 6, 7}}, 6, 6, 7), false);
  }

  private static void makerZero() {
    checks.says("maker 0");
    for (int m = 0; m < 6; m++) {
      checks.due("accepted() where " + m + " makes 6", accepts(new int[][] {{m, 6}}, 6), m == 0);
      checks.due("accepted() where " + m + " is empty", accepts(new int[][] {{m}}), m == 0);
    }
    checks.due("accepted() without rules", accepts(new int[][] {}), false);
    checks.due("accepted() of 6 without rules", accepts(new int[][] {}, 6), false);
  }

  private static void justThisWord() {
    checks.says("A word STANDS FOR a part that is just this word.");
    for (int w = 6; w < 10; w++) {
      int[][] rules = {{0, w}};
      checks.due("accepted() of nothing by " + w, accepts(rules), false);
      for (int v = 6; v < 10; v++) {
        checks.due("accepted() of " + v + " by " + w, accepts(rules, v), v == w);
        checks.due("accepted() of " + w + " " + v + " by " + w, accepts(rules, w, v), false);
      }
    }
  }

  private static void emptyText() {
    checks.says("a rule without a right side is a tree for every empty part");
    checks.due("accepted() of nothing", accepts(new int[][] {{0}}), true);
    checks.due("accepted() of 6", accepts(new int[][] {{0}}, 6), false);
    checks.due("accepted() by makers that are empty", accepts(new int[][] {{0, 1, 2, 1, 2}, {1, 2, 2}, {2}}), true);
    checks.due("accepted() by one that is not", accepts(new int[][] {{0, 1, 2, 1, 3}, {1, 2, 2}, {2}, {3, 6}}), false);
  }

  /** A maker that is 6 or nothing, at each place of a right side and at several. */
  private static void partsMayBeEmpty() {
    checks.says("one behind the other (they may be empty)");
    for (int size = 0; size <= 4; size++) {
      for (int words = 0; words <= 5; words++) {
        int[] rule = java.util.Arrays.copyOf(new int[] {0, 1, 1, 1, 1}, size + 1);
        checks.due("accepted() of " + words + " by " + size, accepts(new int[][] {rule, {1, 6}, {1}},
            Checks.times(6, words)), words <= size);
      }
    }
    checks.due("accepted() of 7", accepts(new int[][] {{0, 1, 7, 1}, {1, 6}, {1}}, 7), true);
    checks.due("accepted() of 6 7", accepts(new int[][] {{0, 1, 7, 1}, {1, 6}, {1}}, 6, 7), true);
    checks.due("accepted() of 7 6", accepts(new int[][] {{0, 1, 7, 1}, {1, 6}, {1}}, 7, 6), true);
    checks.due("accepted() of 6 6 7", accepts(new int[][] {{0, 1, 7, 1}, {1, 6}, {1}}, 6, 6, 7), false);
  }

  private static void treesAreFinite() {
    checks.says("(Trees are finite; ..)");
    int[][] round = {{0, 0}, {0, 1}, {1, 0}, {0, 0, 0}, {1, 1, 1, 1, 1}};
    for (int length = 0; length <= 10; length++) {
      Subject x = checks.grammar(round, Checks.times(6, length));
      checks.due("accepted() of " + length, x.accepted(), false);
      checks.due("trees() of " + length, x.trees(), 0);
    }
  }

  private static void goingRound() {
    checks.says("A maker stands for a part when there is a TREE for it");
    Subject x = checks.grammar(new int[][] {{0, 0}, {0, 1}, {1, 0}}, 6);
    checks.due("accepted() without an end", x.accepted(), false);
    checks.rule(x, 3, 1, 6);
    checks.due("accepted() with one", x.accepted(), true);
    x.erase();
    checks.due("accepted() of nothing", x.accepted(), false);
    checks.rule(x, 4, 1);
    checks.due("accepted() of nothing with an empty rule", x.accepted(), true);
  }

  private static void fullText() {
    checks.says("THE TEXT is a row of up to 10 words");
    int[][] rules = {{0, 6, 0, 7}, {0}};
    checks.due("accepted() of 5 and 5", accepts(rules, 6, 6, 6, 6, 6, 7, 7, 7, 7, 7), true);
    checks.due("accepted() of 6 and 4", accepts(rules, 6, 6, 6, 6, 6, 6, 7, 7, 7, 7), false);
    Subject x = checks.grammar(rules, 6, 6, 6, 6, 6, 7, 7, 7, 7, 7);
    checks.due("an eleventh word", x.word(7), false);
    checks.due("accepted() behind a word that was not taken", x.accepted(), true);
    // Ten levels deep, each word behind the maker's own part, and before it.
    checks.due("accepted() from the left", accepts(new int[][] {{0, 0, 6}, {0}}, Checks.times(6, 10)), true);
    checks.due("accepted() from the right", accepts(new int[][] {{0, 6, 0}, {0}}, Checks.times(6, 10)), true);
  }
}
