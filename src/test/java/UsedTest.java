/** Promise 13: used. */
public final class UsedTest {
  private static final Checks checks = new Checks("UsedTest");

  public static void main(String[] args) {
    allOfTheText();
    familyOfOneThatIsUsed();
    standingIsNotUsed();
    notAccepted();
    emptyParts();
    endless();
    allThatThereAre();
    noSuchPart();
    noSuchMaker();
    checks.end();
  }

  private static void allOfTheText() {
    checks.says("A part with its maker is USED when it is all of the text with maker 0, and that is accepted");
    checks.uses(checks.grammar(new int[][] {{0, 6}}, 6), new int[][] {{0, 0, 1, 1}});
    checks.uses(checks.grammar(new int[][] {{0, 6}}, 7), new int[][] {});
    checks.uses(checks.grammar(new int[][] {{1, 6}}, 6), new int[][] {});
    checks.uses(checks.grammar(new int[][] {{0}}), new int[][] {{0, 0, 0, 1}});
    checks.uses(checks.grammar(new int[][] {{0}}, 6), new int[][] {});
  }

  private static void familyOfOneThatIsUsed() {
    checks.says("or when it belongs to a family of one that is used");
    Subject x = checks.grammar(Grammars.BRACKETS, 6, 6, 7, 7);
    checks.uses(x, new int[][] {{0, 0, 4, 1}, {0, 1, 3, 1}, {0, 2, 2, 1}});
    // Through all makers, and through all places of a right side.
    checks.uses(checks.grammar(new int[][] {{0, 1}, {1, 2}, {2, 3}, {3, 4}, {4, 5}, {5, 6}}, 6),
        new int[][] {{0, 0, 1, 1}, {1, 0, 1, 1}, {2, 0, 1, 1}, {3, 0, 1, 1}, {4, 0, 1, 1}, {5, 0, 1, 1}});
    checks.uses(checks.grammar(new int[][] {{0, 1, 2, 3, 4}, {1, 6}, {2, 7}, {3, 8}, {4, 9}}, 6, 7, 8, 9),
        new int[][] {{0, 0, 4, 1}, {1, 0, 1, 1}, {2, 1, 2, 1}, {3, 2, 3, 1}, {4, 3, 4, 1}});
  }

  /** Maker 1 stands for 6 at both places, maker 2 for nothing anywhere and 3 for 6 6: few are used. */
  private static void standingIsNotUsed() {
    checks.says("it belongs to a family");
    int[][] rules = {{0, 1, 2, 6}, {1, 6}, {2}, {3, 1, 1}};
    checks.uses(checks.grammar(rules, 6, 6), new int[][] {{0, 0, 2, 1}, {1, 0, 1, 1}, {2, 1, 1, 1}});
    // Maker 1 fits before and maker 3 behind, but not together: their rule has no family.
    int[][] apart = {{0, 6, 6, 6}, {0, 1, 3}, {1, 6}, {3, 6}};
    checks.uses(checks.grammar(apart, 6, 6, 6), new int[][] {{0, 0, 3, 1}});
  }

  private static void notAccepted() {
    checks.says("and that is accepted");
    Subject x = checks.grammar(Grammars.BRACKETS, 6, 6, 7);
    checks.uses(x, new int[][] {});
    checks.words(x, 7);
    checks.due("used(0, 1, 3)", x.used(0, 1, 3), true);
    checks.words(x, 7);
    checks.uses(x, new int[][] {});
    checks.uses(checks.grammar(Grammars.PAIRS, 6, 6, 6, 7), new int[][] {});
    checks.uses(checks.grammar(Grammars.PAIRS), new int[][] {});
    checks.uses(checks.grammar(new int[][] {}, 6, 7), new int[][] {});
  }

  /** The empty part at every place, from the first to that behind ten words. */
  private static void emptyParts() {
    checks.says("a rule without a right side is a tree for every empty part");
    for (int length = 0; length <= 10; length++) {
      int[][] parts = new int[2 * length + 2][];
      for (int place = 0; place <= length; place++) {
        parts[2 * place] = new int[] {0, place, length, 1};
        parts[2 * place + 1] = new int[] {1, place, place, 1};
      }
      checks.uses(checks.grammar(new int[][] {{0, 1, 6, 0}, {0, 1}, {1}}, Checks.times(6, length)), parts);
    }
  }

  private static void endless() {
    checks.says("it belongs to a family of one that is used");
    Subject x = checks.grammar(new int[][] {{0, 1}, {1, 2}, {2, 6}, {2, 1}}, 6);
    checks.due("trees()", x.trees(), -1);
    checks.uses(x, new int[][] {{0, 0, 1, 1}, {1, 0, 1, 1}, {2, 0, 1, 2}});
  }

  /** Every maker is any row of sixes: all parts are used with all makers. */
  private static void allThatThereAre() {
    checks.says("A part with its maker is USED when ..");
    int[][] rules = {{0, 0, 0}, {0, 6}, {0}, {0, 1}, {0, 2}, {0, 3}, {0, 4}, {0, 5}, {1, 0}, {2, 0}, {3, 0}, {4, 0},
        {5, 0}};
    int[][] parts = new int[6 * 66][];
    int count = 0;
    for (int m = 0; m < 6; m++) {
      for (int i = 0; i <= 10; i++) {
        for (int j = i; j <= 10; j++) {
          int own = j - i + 1 + 5 + (j - i < 2 ? 1 : 0);
          parts[count++] = new int[] {m, i, j, m == 0 ? own : 1};
        }
      }
    }
    checks.uses(checks.grammar(rules, Checks.times(6, 10)), parts);
  }

  private static void noSuchPart() {
    checks.says("false when there is no such part");
    for (int length = 0; length <= 10; length++) {
      Subject x = checks.grammar(new int[][] {{0, 6, 0}, {0}}, Checks.times(6, length));
      for (int i = 0; i <= length; i++) {
        checks.due("used(0, " + i + ", " + length + ")", x.used(0, i, length), true);
        checks.due("used(0, " + i + ", " + (length + 1) + ")", x.used(0, i, length + 1), false);
        checks.due("used(0, " + i + ", " + (i - 1) + ")", x.used(0, i, i - 1), false);
      }
      checks.due("used(0, -1, " + length + ")", x.used(0, -1, length), false);
      checks.due("used(0, -1, -1)", x.used(0, -1, -1), false);
      checks.due("used behind the end", x.used(0, length + 1, length + 1), false);
      checks.due("used(0, 11, 11)", x.used(0, 11, 11), false);
      checks.due("used(0, 0, 11)", x.used(0, 0, 11), false);
      // Some of these would be used if only their last bits were looked at.
      for (int far : new int[] {Integer.MIN_VALUE, -32, 32, 64, 32 + length, Integer.MAX_VALUE}) {
        checks.due("used(0, " + far + ", " + length + ")", x.used(0, far, length), false);
        checks.due("used(0, 0, " + far + ")", x.used(0, 0, far), false);
        checks.due("used(0, " + far + ", " + far + ")", x.used(0, far, far), false);
      }
    }
    Subject y = checks.grammar(new int[][] {{0, 6, 0}, {0}}, Checks.times(6, 10));
    checks.due("used(0, 3, 10)", y.used(0, 3, 10), true);
    y.erase();
    checks.words(y, 6, 6);
    checks.due("used(0, 0, 2)", y.used(0, 0, 2), true);
    checks.due("used(0, 3, 10) behind erase()", y.used(0, 3, 10), false);
    checks.due("used(0, 0, 10) behind erase()", y.used(0, 0, 10), false);
  }

  private static void noSuchMaker() {
    checks.says("false when there is no such .. maker");
    Subject x = checks.grammar(new int[][] {{0, 5, 6}, {5, 6}, {5}}, 6, 6);
    checks.due("used(0, 0, 2)", x.used(0, 0, 2), true);
    checks.due("used(5, 0, 1)", x.used(5, 0, 1), true);
    for (int none : new int[] {-6, -2, -1, 6, 7, 8, 9, 10, 11, Integer.MIN_VALUE, Integer.MAX_VALUE}) {
      for (int i = 0; i <= 2; i++) {
        for (int j = i; j <= 2; j++) {
          checks.due("used(" + none + ", " + i + ", " + j + ")", x.used(none, i, j), false);
        }
      }
    }
  }
}
