/** Promises 16 and 17: length, made. */
public final class RowsTest {
  private static final Checks checks = new Checks();

  public static void main(String[] args) {
    orderByRules();
    orderByCuts();
    cutsBeforeTrees();
    leftmostFirst();
    longRow();
    deepRow();
    manyWaiting();
    behindTheCap();
    exceptions();
    checks.end("RowsTest");
  }

  private static void orderByRules() {
    NulledForest x = new NulledForest();
    checks.rule(x, 0, 0, 1);
    checks.rule(x, 1, 0, 6);
    checks.rule(x, 2, 1, 2);
    checks.rule(x, 3, 0, 2);
    checks.rule(x, 4, 2, 6);
    checks.rule(x, 5, 1, 6);
    checks.words(x, 6);
    checks.due("trees()", x.trees(), 4);
    checks.row(x, 0, 0, 2, 4);
    checks.row(x, 1, 0, 5);
    checks.row(x, 2, 1);
    checks.row(x, 3, 3, 4);
  }

  private static void orderByCuts() {
    NulledForest x = new NulledForest();
    checks.rule(x, 0, 0, 0, 0);
    checks.rule(x, 1, 0, 6);
    checks.words(x, 6, 6, 6, 6);
    checks.due("trees()", x.trees(), 5);
    checks.row(x, 0, 0, 1, 0, 1, 0, 1, 1);
    checks.row(x, 1, 0, 1, 0, 0, 1, 1, 1);
    checks.row(x, 2, 0, 0, 1, 1, 0, 1, 1);
    checks.row(x, 3, 0, 0, 1, 0, 1, 1, 1);
    checks.row(x, 4, 0, 0, 0, 1, 1, 1, 1);
  }

  /** The second cut differs while the first part, with two trees, stays the same: the cut decides. */
  private static void cutsBeforeTrees() {
    NulledForest x = new NulledForest();
    checks.rule(x, 0, 0, 1, 2, 3);
    checks.rule(x, 1, 1, 6);
    checks.rule(x, 2, 1, 4);
    checks.rule(x, 3, 4, 6);
    checks.rule(x, 4, 2);
    checks.rule(x, 5, 2, 6);
    checks.rule(x, 6, 3, 6);
    checks.rule(x, 7, 3);
    checks.words(x, 6, 6);
    checks.due("trees()", x.trees(), 4);
    checks.row(x, 0, 0, 1, 4, 6);
    checks.row(x, 1, 0, 2, 3, 4, 6);
    checks.row(x, 2, 0, 1, 5, 7);
    checks.row(x, 3, 0, 2, 3, 5, 7);
  }

  private static void leftmostFirst() {
    NulledForest x = new NulledForest();
    checks.rule(x, 0, 0, 1, 7, 1);
    checks.rule(x, 1, 1, 6);
    checks.rule(x, 2, 1, 2);
    checks.rule(x, 3, 2, 6);
    checks.words(x, 6, 7, 6);
    checks.due("trees()", x.trees(), 4);
    checks.row(x, 0, 0, 1, 1);
    checks.row(x, 1, 0, 1, 2, 3);
    checks.row(x, 2, 0, 2, 3, 1);
    checks.row(x, 3, 0, 2, 3, 2, 3);
  }

  private static void longRow() {
    NulledForest x = new NulledForest();
    for (int m = 0; m < 5; m++) {
      checks.rule(x, m, m, m + 1, m + 1, m + 1, m + 1);
    }
    checks.rule(x, 5, 5);
    int[] row = new int[1365];
    checks.due("rules written", write(row, 0, 0), 1365);
    checks.due("trees()", x.trees(), 1);
    checks.row(x, 0, row);
  }

  private static int write(int[] row, int at, int maker) {
    row[at] = maker;
    int next = at + 1;
    for (int n = 0; n < 4 && maker < 5; n++) {
      next = write(row, next, maker + 1);
    }
    return next;
  }

  private static void deepRow() {
    NulledForest x = new NulledForest();
    for (int m = 0; m < 5; m++) {
      checks.rule(x, m, m, m + 1);
    }
    checks.rule(x, 5, 5, 6, 0);
    checks.rule(x, 6, 5, 6);
    checks.words(x, 6, 6, 6, 6, 6, 6, 6, 6, 6, 6);
    int[] row = new int[60];
    for (int i = 0; i < 60; i++) {
      row[i] = i == 59 ? 6 : i % 6;
    }
    checks.due("trees()", x.trees(), 1);
    checks.row(x, 0, row);
  }

  /** At every level three empty parts wait behind the one that goes down. */
  private static void manyWaiting() {
    NulledForest x = new NulledForest();
    for (int m = 0; m < 4; m++) {
      checks.rule(x, m, m, m + 1, 5, 5, 5);
    }
    checks.rule(x, 4, 4, 6, 0, 5, 5);
    checks.rule(x, 5, 4, 6);
    checks.rule(x, 6, 5);
    checks.words(x, 6, 6, 6, 6, 6, 6, 6, 6, 6, 6);
    int[] row = new int[50 + 9 * 14 + 12];
    for (int i = 0; i < row.length; i++) {
      row[i] = i < 49 ? i % 5 : i == 49 ? 5 : 6;
    }
    checks.due("trees()", x.trees(), 1);
    checks.row(x, 0, row);
  }

  /** Ten trees for each of nine words: the digits of the number are the trees of the words. */
  private static void behindTheCap() {
    NulledForest x = new NulledForest();
    checks.rule(x, 0, 0, 2, 2, 2);
    checks.rule(x, 1, 2, 1, 1, 1);
    int[][] sides = {{6}, {5, 6}, {6, 5}, {5, 6, 5}, {5, 5, 6}, {6, 5, 5}, {5, 5, 5, 6}, {5, 5, 6, 5},
        {5, 6, 5, 5}, {6, 5, 5, 5}};
    int[] fives = {0, 1, 1, 2, 2, 2, 3, 3, 3, 3};
    for (int n = 0; n < 10; n++) {
      checks.rule(x, 2 + n, 1, sides[n]);
    }
    checks.rule(x, 12, 5);
    checks.words(x, 6, 6, 6, 6, 6, 6, 6, 6, 6);
    checks.due("trees()", x.trees(), 1000000000);
    for (int k : new int[] {0, 1, 9, 10, 123456789, 987654321, 500000000, 999999999}) {
      int[] row = new int[50];
      int size = 0;
      row[size++] = 0;
      int unit = 100000000;
      for (int w = 0; w < 9; w++, unit /= 10) {
        if (w % 3 == 0) {
          row[size++] = 1;
        }
        int digit = k / unit % 10;
        row[size++] = 2 + digit;
        for (int n = 0; n < fives[digit]; n++) {
          row[size++] = 12;
        }
      }
      checks.row(x, k, java.util.Arrays.copyOf(row, size));
    }
    for (int k : new int[] {1000000000, 1000000001, Integer.MAX_VALUE, -1}) {
      checks.due("length(" + k + ")", Checks.length(x, k), Checks.ELEMENT);
      checks.due("made(" + k + ", 0)", Checks.made(x, k, 0), Checks.ELEMENT);
    }
    checks.rule(x, 13, 0, 2, 2, 2, 5);
    checks.due("length(999999999) where there are more", Checks.length(x, 999999999), 40);
    checks.due("length(1000000000), a tree that has no number", Checks.length(x, 1000000000), Checks.ELEMENT);
  }

  private static void exceptions() {
    NulledForest x = new NulledForest();
    checks.due("length(0) of no tree", Checks.length(x, 0), Checks.ELEMENT);
    checks.due("made(0, -1) of no tree", Checks.made(x, 0, -1), Checks.ELEMENT);
    checks.rule(x, 0, 0, 6);
    checks.words(x, 6);
    checks.row(x, 0, 0);
    for (int k : new int[] {-1, 1, 1000000000, Integer.MIN_VALUE, Integer.MAX_VALUE}) {
      checks.due("length(" + k + ")", Checks.length(x, k), Checks.ELEMENT);
      checks.due("made(" + k + ", 0)", Checks.made(x, k, 0), Checks.ELEMENT);
      checks.due("made(" + k + ", 7)", Checks.made(x, k, 7), Checks.ELEMENT);
    }
    for (int i : new int[] {-1, 1, Integer.MIN_VALUE, Integer.MAX_VALUE}) {
      checks.due("made(0, " + i + ")", Checks.made(x, 0, i), Checks.INDEX);
    }
    checks.rule(x, 1, 0, 0);
    for (int k : new int[] {-1, 0, 1000000000, Integer.MAX_VALUE}) {
      checks.due("length(" + k + ") endlessly", Checks.length(x, k), Checks.STATE);
      checks.due("made(" + k + ", 0) endlessly", Checks.made(x, k, 0), Checks.STATE);
      checks.due("made(" + k + ", -1) endlessly", Checks.made(x, k, -1), Checks.STATE);
    }
    x.erase();
    checks.due("length(0) of a text that is not accepted", Checks.length(x, 0), Checks.ELEMENT);
  }
}
