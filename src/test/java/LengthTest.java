/** Promise 16: length. */
public final class LengthTest {
  private static final int[] NEVER = {-1, -2, 1000000000, 1000000001, Integer.MIN_VALUE, Integer.MAX_VALUE};
  private static final Checks checks = new Checks("LengthTest");

  public static void main(String[] args) {
    howLong();
    ofEachTree();
    byCutsOfOtherLengths();
    longRows();
    endless();
    noTree();
    treesThatThereAre();
    aBillionAndMore();
    checks.end();
  }

  private static void length(int want, int[][] rules, int... words) {
    checks.due("length(0) by " + java.util.Arrays.deepToString(rules), checks.grammar(rules, words).length(0), want);
  }

  private static void howLong() {
    checks.says("A tree's ROW OF RULES is its rule, and behind that the rows of rules of the trees for its makers");
    length(1, new int[][] {{0}});
    length(1, new int[][] {{0, 6}}, 6);
    length(1, new int[][] {{0, 6, 7, 8, 9}}, 6, 7, 8, 9);
    length(2, new int[][] {{0, 1}, {1}});
    length(5, new int[][] {{0, 1, 1, 1, 1}, {1}});
    length(6, new int[][] {{0, 1}, {1, 2}, {2, 3}, {3, 4}, {4, 5}, {5, 6}}, 6);
    for (int length = 0; length <= 10; length++) {
      length(length + 1, new int[][] {{0, 6, 0}, {0}}, Checks.times(6, length));
    }
  }

  private static void ofEachTree() {
    checks.says("How long the row of rules of tree k is.");
    Subject x = checks.grammar(new int[][] {{0, 1, 7, 1}, {1, 6}, {1, 2}, {2, 6}}, 6, 7, 6);
    int[] lengths = {3, 4, 4, 5};
    for (int k = 0; k < 4; k++) {
      checks.due("length(" + k + ")", x.length(k), lengths[k]);
    }
    checks.due("length(4)", x.length(4), Subject.ELEMENT);
    checks.due("length(-1)", x.length(-1), Subject.ELEMENT);
  }

  /** The first tree is that of the first cut, or of the first rule, not the shortest and not the last. */
  private static void byCutsOfOtherLengths() {
    checks.says("How long the row of rules of tree k is.");
    Subject x = checks.grammar(new int[][] {{0, 1, 2}, {1, 6, 1}, {1}, {2, 6}, {2, 6, 6}}, 6, 6);
    checks.due("length(0), cut at 0", x.length(0), 3);
    checks.due("length(1), cut at 1", x.length(1), 4);
    checks.due("length(2)", x.length(2), Subject.ELEMENT);
    Subject y = checks.grammar(new int[][] {{0, 2, 1}, {1, 6, 1}, {1}, {2, 6}, {2, 6, 6}}, 6, 6);
    checks.due("length(0), cut at 1", y.length(0), 4);
    checks.due("length(1), cut at 2", y.length(1), 3);
    Subject z = checks.grammar(new int[][] {{0, 6}, {0, 1}, {1, 2}, {2, 6}, {1, 6}}, 6);
    checks.due("length(0), the shortest", z.length(0), 1);
    checks.due("length(1), the longest", z.length(1), 3);
    checks.due("length(2)", z.length(2), 2);
  }

  private static void longRows() {
    checks.says("How long the row of rules of tree k is.");
    for (int length = 0; length <= 10; length++) {
      length(1365 + 683 * length, Grammars.LONG, Checks.times(6, length));
    }
    Subject x = checks.grammar(Grammars.DIGITS, 6);
    for (int k : new int[] {0, 1, 7, 10, 777777777, 888888888, 123456789, 999999998, 999999999}) {
      checks.due("length(" + k + ")", x.length(k), Grammars.digits(k, 0).length);
    }
  }

  private static void endless() {
    checks.says("IllegalStateException: there are endlessly many trees");
    Subject x = checks.grammar(new int[][] {{0, 6}}, 6);
    checks.due("length(0) of one tree", x.length(0), 1);
    checks.rule(x, 1, 0, 0);
    for (int k : new int[] {0, 1, 2, 999999999}) {
      checks.due("length(" + k + ")", x.length(k), Subject.STATE);
    }
    for (int k : NEVER) {
      checks.due("length(" + k + ")", x.length(k), Subject.STATE);
    }
    checks.words(x, 6);
    checks.due("length(0) of a text that is not accepted", x.length(0), Subject.ELEMENT);
    x.erase();
    checks.due("length(0) of no text", x.length(0), Subject.ELEMENT);
    checks.words(x, 6);
    checks.due("length(0) again", x.length(0), Subject.STATE);
    x.clear();
    checks.due("length(0) behind clear()", x.length(0), Subject.ELEMENT);
  }

  private static void noTree() {
    checks.says("NoSuchElementException: there is no tree k");
    int[][][] grammars = {{}, {{0, 6}}, {{0, 6}, {0, 0}}, {{1}}};
    for (int[][] rules : grammars) {
      Subject x = checks.grammar(rules);
      checks.due("length(0)", x.length(0), Subject.ELEMENT);
      checks.due("length(1)", x.length(1), Subject.ELEMENT);
      for (int k : NEVER) {
        checks.due("length(" + k + ")", x.length(k), Subject.ELEMENT);
      }
    }
  }

  /** The last tree of each text and the one behind it, from one tree to many. */
  private static void treesThatThereAre() {
    checks.says("NoSuchElementException: there is no tree k");
    int[] trees = {0, 1, 1, 2, 5, 14, 42, 132, 429, 1430, 4862};
    for (int length = 0; length <= 10; length++) {
      Subject x = checks.grammar(Grammars.PAIRS, Checks.times(6, length));
      checks.due("length(" + (trees[length] - 1) + ") of " + length, x.length(trees[length] - 1),
          length == 0 ? Subject.ELEMENT : 2 * length - 1);
      checks.due("length(" + trees[length] + ") of " + length, x.length(trees[length]), Subject.ELEMENT);
      for (int k : NEVER) {
        checks.due("length(" + k + ")", x.length(k), Subject.ELEMENT);
      }
    }
  }

  private static void aBillionAndMore() {
    checks.says("NoSuchElementException: .. or k is 1000000000 or more");
    Subject x = checks.grammar(Grammars.BILLION_BUT_ONE, Checks.times(6, 9));
    // The last tree goes by 0 1 and 1 6 4 2; maker 4's last tree is its empty rule, and maker 2 goes over eight.
    checks.due("length(999999998), the last", x.length(999999998), 1 + 1 + 1 + 9);
    checks.due("length(999999999) where there is none", x.length(999999999), Subject.ELEMENT);
    checks.rule(x, 11, 0, 2);
    checks.due("length(999999999) where it is the last", x.length(999999999), 11);
    checks.rule(x, 12, 0, 5, 2);
    checks.due("length(999999999) where there is one more", x.length(999999999), 11);
    for (int more = 0; more < 2; more++) {
      for (int k : NEVER) {
        checks.due("length(" + k + ") where there are more", x.length(k), Subject.ELEMENT);
      }
      checks.rule(x, more == 0 ? 13 : -1, 0, 2, 5);
    }
    Subject y = checks.grammar(Grammars.DIGITS, 6);
    checks.due("length(999999999) of just a billion", y.length(999999999), Grammars.digits(999999999, 0).length);
    checks.due("length(1000000000) of just a billion", y.length(1000000000), Subject.ELEMENT);
  }
}
