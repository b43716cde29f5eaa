/** Promises 13 to 15: used, families, trees. */
public final class ForestTest {
  private static final Checks checks = new Checks();

  public static void main(String[] args) {
    brackets();
    standingIsNotUsed();
    cutsOfFour();
    emptyParts();
    ambiguous();
    endless();
    endlessButNotUsed();
    endlessByEmptyParts();
    theCap();
    wrongParts();
    checks.end("ForestTest");
  }

  private static void used(NulledForest x, int[][] parts) {
    for (int m = -1; m <= 6; m++) {
      for (int i = -1; i <= 11; i++) {
        for (int j = -1; j <= 11; j++) {
          int families = 0;
          for (int[] part : parts) {
            families = part[0] == m && part[1] == i && part[2] == j ? part[3] : families;
          }
          String name = "(" + m + ", " + i + ", " + j + ")";
          checks.due("used" + name, x.used(m, i, j), families > 0);
          checks.due("families" + name, x.families(m, i, j), families);
        }
      }
    }
  }

  private static void brackets() {
    NulledForest x = new NulledForest();
    checks.rule(x, 0, 0, 6, 0, 7);
    checks.rule(x, 1, 0);
    checks.words(x, 6, 6, 7);
    used(x, new int[][] {});
    checks.words(x, 7);
    used(x, new int[][] {{0, 0, 4, 1}, {0, 1, 3, 1}, {0, 2, 2, 1}});
    checks.due("trees()", x.trees(), 1);
    x.erase();
    used(x, new int[][] {{0, 0, 0, 1}});
  }

  /** Maker 1 stands for 6 at both places, and maker 2 for nothing anywhere, but few of these are used. */
  private static void standingIsNotUsed() {
    NulledForest x = new NulledForest();
    checks.rule(x, 0, 0, 1, 2, 6);
    checks.rule(x, 1, 1, 6);
    checks.rule(x, 2, 2);
    checks.rule(x, 3, 3, 1, 1);
    checks.words(x, 6, 6);
    used(x, new int[][] {{0, 0, 2, 1}, {1, 0, 1, 1}, {2, 1, 1, 1}});
    checks.words(x, 6);
    used(x, new int[][] {});
    checks.due("trees()", x.trees(), 0);
  }

  private static void cutsOfFour() {
    NulledForest x = new NulledForest();
    checks.rule(x, 0, 0, 1, 1, 1, 1);
    checks.rule(x, 1, 1, 6, 1);
    checks.rule(x, 2, 1);
    checks.words(x, 6, 6, 6, 6, 6, 6, 6, 6, 6, 6);
    checks.due("families(0, 0, 10)", x.families(0, 0, 10), 286);
    checks.due("families(1, 3, 10)", x.families(1, 3, 10), 1);
    checks.due("families(0, 3, 10)", x.families(0, 3, 10), 0);
    checks.due("trees()", x.trees(), 286);
  }

  private static void emptyParts() {
    NulledForest x = new NulledForest();
    checks.rule(x, 0, 0, 1, 2);
    checks.rule(x, 1, 0, 2);
    checks.rule(x, 2, 0);
    checks.rule(x, 3, 1);
    checks.rule(x, 4, 2, 1, 1);
    checks.rule(x, 5, 2);
    used(x, new int[][] {{0, 0, 0, 3}, {1, 0, 0, 1}, {2, 0, 0, 2}});
    checks.due("trees()", x.trees(), 5);
  }

  private static void ambiguous() {
    NulledForest x = new NulledForest();
    checks.rule(x, 0, 0, 0, 0);
    checks.rule(x, 1, 0, 6);
    int[] catalan = {1, 1, 2, 5, 14, 42, 132, 429, 1430, 4862};
    for (int n = 0; n < catalan.length; n++) {
      checks.words(x, 6);
      checks.due("trees() of " + (n + 1), x.trees(), catalan[n]);
      checks.due("families(0, 0, " + (n + 1) + ")", x.families(0, 0, n + 1), n == 0 ? 1 : n);
    }
  }

  private static void endless() {
    NulledForest x = new NulledForest();
    checks.rule(x, 0, 0, 1);
    checks.rule(x, 1, 1, 2);
    checks.rule(x, 2, 2, 6);
    checks.words(x, 6);
    checks.due("trees()", x.trees(), 1);
    checks.rule(x, 3, 2, 1);
    checks.due("trees() going round by two makers", x.trees(), -1);
    checks.due("accepted()", x.accepted(), true);
    used(x, new int[][] {{0, 0, 1, 1}, {1, 0, 1, 1}, {2, 0, 1, 2}});
    x.erase();
    checks.due("trees() of the empty text", x.trees(), 0);
    x.clear();
    checks.rule(x, 0, 0, 0);
    checks.words(x, 6);
    checks.due("trees() of a maker that only makes itself", x.trees(), 0);
    checks.rule(x, 1, 0, 6);
    checks.due("trees() of a maker that makes itself too", x.trees(), -1);
    checks.due("families(0, 0, 1)", x.families(0, 0, 1), 2);
  }

  private static void endlessButNotUsed() {
    NulledForest x = new NulledForest();
    checks.rule(x, 0, 0, 6);
    checks.rule(x, 1, 1, 1);
    checks.rule(x, 2, 1, 6);
    checks.rule(x, 3, 1, 7);
    checks.rule(x, 4, 0, 1, 7);
    checks.words(x, 6);
    checks.due("trees() where maker 1 goes round unused", x.trees(), 1);
    checks.words(x, 7);
    checks.due("trees() where maker 1 goes round, used", x.trees(), -1);
  }

  /** The other symbols of the rule make nothing, and so the maker holds itself for the same part. */
  private static void endlessByEmptyParts() {
    NulledForest x = new NulledForest();
    checks.rule(x, 0, 0, 1, 0, 1);
    checks.rule(x, 1, 0, 6);
    checks.rule(x, 2, 1, 7);
    checks.words(x, 7, 6, 7);
    checks.due("trees()", x.trees(), 1);
    checks.rule(x, 3, 1);
    checks.due("trees() with maker 1 nullable", x.trees(), -1);
    checks.due("families(0, 0, 3)", x.families(0, 0, 3), 4);
    x.clear();
    checks.rule(x, 0, 0, 6, 1);
    checks.rule(x, 1, 1, 1, 1);
    checks.rule(x, 2, 1);
    checks.words(x, 6);
    checks.due("trees() with an empty part that holds itself", x.trees(), -1);
    used(x, new int[][] {{0, 0, 1, 1}, {1, 1, 1, 2}});
  }

  /** Nine words in maker 1, each in one tree more than there were before, up to ten. */
  private static void theCap() {
    NulledForest x = new NulledForest();
    checks.rule(x, 0, 0, 2, 2, 2);
    checks.rule(x, 1, 2, 1, 1, 1);
    checks.rule(x, 2, 5);
    checks.words(x, 6, 6, 6, 6, 6, 6, 6, 6, 6);
    int[][] sides = {{6}, {5, 6}, {6, 5}, {5, 6, 5}, {5, 5, 6}, {6, 5, 5}, {5, 5, 5, 6}, {5, 5, 6, 5},
        {5, 6, 5, 5}, {6, 5, 5, 5}};
    int[] trees = {1, 512, 19683, 262144, 1953125, 10077696, 40353607, 134217728, 387420489, 1000000000};
    for (int n = 0; n < sides.length; n++) {
      checks.rule(x, 3 + n, 1, sides[n]);
      checks.due("trees() with " + (n + 1) + " for each word", x.trees(), trees[n]);
    }
    checks.rule(x, 13, 0, 2, 2, 2, 5);
    checks.due("trees() where there are twice as many", x.trees(), 1000000000);
    x.clear();
    checks.rule(x, 0, 0, 1, 1, 1, 1);
    checks.rule(x, 1, 1, 2, 2, 2, 2);
    checks.rule(x, 2, 2, 3, 3, 3, 3);
    checks.rule(x, 3, 3, 6);
    checks.rule(x, 4, 3);
    int[] binomial = {64, 2016, 41664, 635376, 7624512, 74974368, 621216192};
    for (int n = 0; n < 10; n++) {
      checks.words(x, 6);
      checks.due("trees() of " + (n + 1) + " in 64", x.trees(), n < 7 ? binomial[n] : 1000000000);
    }
  }

  private static void wrongParts() {
    NulledForest x = new NulledForest();
    checks.rule(x, 0, 0, 6, 0);
    checks.rule(x, 1, 0);
    checks.words(x, 6, 6);
    int[][] wrong = {{-1, 0, 2}, {6, 0, 1}, {10, 0, 2}, {0, -1, 2}, {0, 0, 3}, {0, 2, 1}, {0, 3, 3}, {0, 0, -1},
        {0, Integer.MIN_VALUE, 2}, {0, 0, Integer.MAX_VALUE}, {Integer.MAX_VALUE, 0, 2},
        {Integer.MIN_VALUE, 0, 2}, {0, Integer.MAX_VALUE, Integer.MAX_VALUE}};
    for (int[] part : wrong) {
      String name = java.util.Arrays.toString(part);
      checks.due("used" + name, x.used(part[0], part[1], part[2]), false);
      checks.due("families" + name, x.families(part[0], part[1], part[2]), 0);
    }
    used(x, new int[][] {{0, 0, 2, 1}, {0, 1, 2, 1}, {0, 2, 2, 1}});
  }
}
