/** Promise 17: made. */
public final class MadeTest {
  private static final int[] FAR = {-2, -1, Integer.MIN_VALUE, 1000000, Integer.MAX_VALUE};
  private static final Checks checks = new Checks("MadeTest");

  public static void main(String[] args) {
    rowOfRules();
    orderByRules();
    orderByCuts();
    firstCutThatDiffers();
    cutsBeforeTrees();
    leftmostTreesFirst();
    longRow();
    deepRow();
    manyWaiting();
    manyTrees();
    endless();
    noTree();
    aBillionAndMore();
    rowNotSoLong();
    checks.end();
  }

  private static void rowOfRules() {
    checks.says("is its rule, and behind that the rows of rules of the trees for its makers, from the left");
    checks.row(checks.grammar(new int[][] {{0}}), 0, 0);
    checks.row(checks.grammar(new int[][] {{1}, {0, 6}}, 6), 0, 1);
    Subject x = checks.grammar(new int[][] {{4, 9}, {3, 8, 4}, {2, 7}, {1, 6, 2}, {0, 1, 3}}, 6, 7, 8, 9);
    checks.row(x, 0, 4, 3, 2, 1, 0);
    checks.row(checks.grammar(Grammars.BRACKETS, 6, 6, 7, 7), 0, 0, 0, 1);
  }

  private static void orderByRules() {
    checks.says("TREES OF A PART, when they are not endless, are ordered: by their rules");
    Subject x = checks.grammar(new int[][] {{0, 1}, {0, 6}, {1, 2}, {0, 2}, {2, 6}, {1, 6}}, 6);
    checks.due("trees()", x.trees(), 4);
    checks.row(x, 0, 0, 2, 4);
    checks.row(x, 1, 0, 5);
    checks.row(x, 2, 1);
    checks.row(x, 3, 3, 4);
  }

  private static void orderByCuts() {
    checks.says("of the same rule by the places where it cuts");
    Subject x = checks.grammar(Grammars.PAIRS, 6, 6, 6, 6);
    checks.due("trees()", x.trees(), 5);
    checks.row(x, 0, 0, 1, 0, 1, 0, 1, 1);
    checks.row(x, 1, 0, 1, 0, 0, 1, 1, 1);
    checks.row(x, 2, 0, 0, 1, 1, 0, 1, 1);
    checks.row(x, 3, 0, 0, 1, 0, 1, 1, 1);
    checks.row(x, 4, 0, 0, 0, 1, 1, 1, 1);
  }

  /** Each of four makers is the one word or nothing, and its rule tells which. */
  private static void firstCutThatDiffers() {
    checks.says("the first that differs deciding");
    int[][] rules = {{0, 1, 2, 3, 4}, {1, 6}, {1}, {2, 6}, {2}, {3, 6}, {3}, {4, 6}, {4}};
    Subject x = checks.grammar(rules, 6);
    checks.due("trees()", x.trees(), 4);
    checks.row(x, 0, 0, 2, 4, 6, 7);
    checks.row(x, 1, 0, 2, 4, 5, 8);
    checks.row(x, 2, 0, 2, 3, 6, 8);
    checks.row(x, 3, 0, 1, 4, 6, 8);
    Subject y = checks.grammar(rules, 6, 6);
    checks.due("trees()", y.trees(), 6);
    checks.row(y, 0, 0, 2, 4, 5, 7);
    checks.row(y, 1, 0, 2, 3, 6, 7);
    checks.row(y, 2, 0, 2, 3, 5, 8);
    checks.row(y, 3, 0, 1, 4, 6, 7);
    checks.row(y, 4, 0, 1, 4, 5, 8);
    checks.row(y, 5, 0, 1, 3, 6, 8);
  }

  /** The second cut differs while the first part, with two trees, stays the same: the cut decides. */
  private static void cutsBeforeTrees() {
    checks.says("of the same family by the trees for its makers");
    Subject x = checks.grammar(new int[][] {{0, 1, 2, 3}, {1, 6}, {1, 4}, {4, 6}, {2}, {2, 6}, {3, 6}, {3}}, 6, 6);
    checks.due("trees()", x.trees(), 4);
    checks.row(x, 0, 0, 1, 4, 6);
    checks.row(x, 1, 0, 2, 3, 4, 6);
    checks.row(x, 2, 0, 1, 5, 7);
    checks.row(x, 3, 0, 2, 3, 5, 7);
  }

  private static void leftmostTreesFirst() {
    checks.says("from the left, the first that differ deciding");
    Subject x = checks.grammar(new int[][] {{0, 1, 7, 1}, {1, 6}, {1, 2}, {2, 6}}, 6, 7, 6);
    checks.due("trees()", x.trees(), 4);
    checks.row(x, 0, 0, 1, 1);
    checks.row(x, 1, 0, 1, 2, 3);
    checks.row(x, 2, 0, 2, 3, 1);
    checks.row(x, 3, 0, 2, 3, 2, 3);
    // Four makers of two trees each: the number's bits, the first maker's the highest.
    Subject y = checks.grammar(new int[][] {{0, 1, 1, 1, 1}, {1}, {1, 2}, {2}});
    checks.due("trees()", y.trees(), 16);
    for (int k = 0; k < 16; k++) {
      int[] row = new int[9];
      int size = 1;
      for (int bit = 3; bit >= 0; bit--) {
        row[size++] = (k >> bit & 1) + 1;
        if ((k >> bit & 1) == 1) {
          row[size++] = 3;
        }
      }
      checks.row(y, k, java.util.Arrays.copyOf(row, size));
    }
    checks.due("length(16)", y.length(16), Subject.ELEMENT);
  }

  private static int write(int[] row, int at, int maker) {
    row[at] = maker;
    int next = at + 1;
    for (int n = 0; n < 4 && maker < 5; n++) {
      next = write(row, next, maker + 1);
    }
    return next;
  }

  /** Ten words, two long empty parts behind each, and behind them all the longest empty part there is. */
  private static void longRow() {
    checks.says("Rule i (from 0) in the row of rules of tree k.");
    int[] row = new int[8195];
    java.util.Arrays.fill(row, 0, 10, 6);
    int size = write(row, 10, 0);
    for (int n = 0; n < 20; n++) {
      size = write(row, size, 1);
    }
    checks.due("rules written", size, 8195);
    checks.row(checks.grammar(Grammars.LONG, Checks.times(6, 10)), 0, row);
  }

  private static void deepRow() {
    checks.says("Rule i (from 0) in the row of rules of tree k.");
    int[][] rules = {{0, 1}, {1, 2}, {2, 3}, {3, 4}, {4, 5}, {5, 6, 0}, {5, 6}};
    Subject x = checks.grammar(rules, Checks.times(6, 10));
    int[] row = new int[60];
    for (int i = 0; i < 60; i++) {
      row[i] = i == 59 ? 6 : i % 6;
    }
    checks.due("trees()", x.trees(), 1);
    checks.row(x, 0, row);
  }

  /**
   * At every level three empty parts wait behind the one that goes down, each in one of two trees: their
   * numbers are the bits of the tree's number, the last part's the lowest.
   */
  private static void manyWaiting() {
    checks.says("Rule i (from 0) in the row of rules of tree k.");
    int[][] rules = {{0, 1, 4, 4, 4}, {1, 2, 4, 4, 4}, {2, 3, 4, 4, 4}, {3, 0, 6, 4, 4}, {3, 6}, {4}, {4, 5}, {5}};
    Subject x = checks.grammar(rules, Checks.times(6, 10));
    int waiting = 10 * 9 + 9 * 2;
    for (long k : new long[] {0, 1, 2, 715827882, 999999998, 999999999}) {
      int[] row = new int[40 + 2 * waiting];
      int size = 0;
      for (int i = 0; i < 40; i++) {
        row[size++] = i == 39 ? 4 : i % 4;
      }
      for (int bit = waiting - 1; bit >= 0; bit--) {
        boolean second = bit < 30 && (k >> bit & 1) == 1;
        row[size++] = second ? 6 : 5;
        if (second) {
          row[size++] = 7;
        }
      }
      checks.row(x, (int) k, java.util.Arrays.copyOf(row, size));
    }
  }

  private static void manyTrees() {
    checks.says("Trees of the text are numbered so from 0.");
    Subject x = checks.grammar(Grammars.DIGITS, 6);
    int[][] rules = Grammars.DIGITS.clone();
    rules[0] = new int[] {0, 1, 1, 1, 1};
    Subject four = checks.grammar(rules);
    int[] firsts = {};
    for (int n = 0; n < 3; n++) {
      firsts = Grammars.digits(0, n == 0 ? new int[] {0} : firsts);
    }
    for (int k : new int[] {0, 1, 9, 10, 123456789, 987654321, 500000000, 777777777, 999999998, 999999999}) {
      checks.row(x, k, Grammars.digits(k, 0));
      checks.row(four, k, Grammars.digits(k, firsts));
    }
  }

  private static void endless() {
    checks.says("IllegalStateException: there are endlessly many trees");
    Subject x = checks.grammar(new int[][] {{0, 6}}, 6);
    checks.row(x, 0, 0);
    checks.rule(x, 1, 0, 0);
    for (int k : new int[] {0, 1, 999999999, 1000000000, -1, Integer.MIN_VALUE, Integer.MAX_VALUE}) {
      for (int i : new int[] {0, 1, -1, Integer.MIN_VALUE, Integer.MAX_VALUE}) {
        checks.due("made(" + k + ", " + i + ")", x.made(k, i), Subject.STATE);
      }
    }
    x.erase();
    checks.due("made(0, 0) of a text that is not accepted", x.made(0, 0), Subject.ELEMENT);
    checks.words(x, 6);
    checks.due("made(0, 0) again", x.made(0, 0), Subject.STATE);
    x.clear();
    checks.rule(x, 0, 0, 6);
    checks.words(x, 6);
    checks.row(x, 0, 0);
  }

  private static void noTree() {
    checks.says("NoSuchElementException: there is no tree k");
    int[] trees = {0, 1, 1, 2, 5, 14};
    for (int length = 0; length <= 5; length++) {
      Subject x = checks.grammar(Grammars.PAIRS, Checks.times(6, length));
      checks.due("made(0, 0)", x.made(0, 0), length == 0 ? Subject.ELEMENT : length == 1 ? 1 : 0);
      for (int k : new int[] {-1, trees[length], 1000000000, Integer.MIN_VALUE, Integer.MAX_VALUE}) {
        for (int i : new int[] {0, 1, 8, 9, -1, Integer.MIN_VALUE, Integer.MAX_VALUE}) {
          checks.due("made(" + k + ", " + i + ") of " + length, x.made(k, i), Subject.ELEMENT);
        }
      }
      checks.due("the last tree's last rule", x.made(trees[length] - 1, 2 * length - 2),
          length == 0 ? Subject.ELEMENT : 1);
    }
  }

  private static void aBillionAndMore() {
    checks.says("NoSuchElementException: .. or k is 1000000000 or more");
    Subject x = checks.grammar(Grammars.BILLION_BUT_ONE, Checks.times(6, 9));
    checks.row(x, 999999998, 0, 3, 9, 4, 4, 4, 4, 4, 4, 4, 4, 5);
    checks.due("made(999999999, 0) where there is none", x.made(999999999, 0), Subject.ELEMENT);
    checks.rule(x, 11, 0, 2);
    checks.row(x, 999999999, 11, 4, 4, 4, 4, 4, 4, 4, 4, 4, 5);
    checks.due("made(1000000000, 0) where there is none", x.made(1000000000, 0), Subject.ELEMENT);
    checks.rule(x, 12, 0, 5, 2);
    checks.row(x, 999999999, 11, 4, 4, 4, 4, 4, 4, 4, 4, 4, 5);
    for (int k : new int[] {1000000000, 1000000001, 2000000000, Integer.MAX_VALUE, -1}) {
      for (int i : new int[] {0, 10, 11, 12, -1, Integer.MAX_VALUE}) {
        checks.due("made(" + k + ", " + i + ") where there are more", x.made(k, i), Subject.ELEMENT);
      }
    }
    // The first trees of as many: each word by 6 4 1 with maker 4's first tree, the last by 6 4 2.
    Subject y = checks.grammar(Grammars.BILLION_BUT_ONE, 6, 6);
    checks.row(y, 0, 0, 1, 8, 6, 6, 6, 3, 8, 6, 6, 6, 5);
    checks.row(y, 98, 0, 3, 9, 4, 5);
  }

  private static void rowNotSoLong() {
    checks.says("IndexOutOfBoundsException: its row is not so long");
    for (int length = 0; length <= 10; length++) {
      Subject x = checks.grammar(new int[][] {{0, 6, 0}, {0}}, Checks.times(6, length));
      checks.due("made(0, 0) of " + length, x.made(0, 0), length == 0 ? 1 : 0);
      checks.due("made(0, " + length + ")", x.made(0, length), 1);
      checks.due("made(0, " + (length + 1) + ")", x.made(0, length + 1), Subject.INDEX);
      checks.due("made(0, " + (length + 2) + ")", x.made(0, length + 2), Subject.INDEX);
      for (int i : FAR) {
        checks.due("made(0, " + i + ")", x.made(0, i), Subject.INDEX);
      }
    }
    // Rows of other lengths beside: the index is held against the own one.
    Subject y = checks.grammar(new int[][] {{0, 1, 7, 1}, {1, 6}, {1, 2}, {2, 6}}, 6, 7, 6);
    int[] lengths = {3, 4, 4, 5};
    for (int k = 0; k < 4; k++) {
      checks.due("whether made(" + k + ", " + (lengths[k] - 1) + ") is a rule", y.made(k, lengths[k] - 1) >= 0, true);
      checks.due("made(" + k + ", " + lengths[k] + ")", y.made(k, lengths[k]), Subject.INDEX);
      for (int i : FAR) {
        checks.due("made(" + k + ", " + i + ")", y.made(k, i), Subject.INDEX);
      }
    }
  }
}
