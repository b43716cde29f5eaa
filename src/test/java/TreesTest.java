/** Promise 15: trees. */
public final class TreesTest {
  private static final int MOST = 1000000000;
  private static final Checks checks = new Checks("TreesTest");

  public static void main(String[] args) {
    noTree();
    oneTree();
    severalTrees();
    upToTheMost();
    farBeyondTheMost();
    mostInAPartOnly();
    endlessDirectly();
    endlessByOthers();
    endlessByEmptyParts();
    goingRoundUnused();
    goingRoundWithoutTrees();
    itselfForAnotherPart();
    checks.end();
  }

  private static void trees(int want, int[][] rules, int... words) {
    checks.due("trees() of " + words.length + " words by " + java.util.Arrays.deepToString(rules),
        checks.grammar(rules, words).trees(), want);
  }

  private static void noTree() {
    checks.says("How many trees the text has");
    trees(0, new int[][] {});
    trees(0, new int[][] {}, 6);
    trees(0, new int[][] {{0, 6}});
    trees(0, new int[][] {{0, 6}}, 7);
    trees(0, new int[][] {{0, 6}}, 6, 6);
    trees(0, new int[][] {{0}}, 6);
    trees(0, new int[][] {{1, 6}}, 6);
  }

  private static void oneTree() {
    checks.says("How many trees the text has");
    trees(1, new int[][] {{0}});
    trees(1, new int[][] {{0, 6}}, 6);
    trees(1, Grammars.BRACKETS, 6, 6, 6, 6, 6, 7, 7, 7, 7, 7);
  }

  private static void severalTrees() {
    checks.says("How many trees the text has");
    int[] pairs = {0, 1, 1, 2, 5, 14, 42, 132, 429, 1430, 4862};
    for (int length = 0; length <= 10; length++) {
      trees(pairs[length], Grammars.PAIRS, Checks.times(6, length));
    }
    trees(5, new int[][] {{0, 1, 2}, {0, 2}, {0}, {1}, {2, 1, 1}, {2}});
    trees(286, new int[][] {{0, 1, 1, 1, 1}, {1, 6, 1}, {1}}, Checks.times(6, 10));
  }

  /** One tree less than the most, just as many, one more and two more; and each by the text alone. */
  private static void upToTheMost() {
    checks.says("1000000000 when there are more");
    int trees = 9;
    for (int length = 1; length <= 10; length++) {
      trees(length == 10 ? MOST : trees, Grammars.BILLION_BUT_ONE, Checks.times(6, length));
      trees = length < 9 ? trees * 10 + 9 : MOST;
    }
    Subject x = checks.grammar(Grammars.BILLION_BUT_ONE, Checks.times(6, 9));
    checks.due("trees(), one less", x.trees(), MOST - 1);
    checks.rule(x, 11, 0, 2);
    checks.due("trees(), just as many", x.trees(), MOST);
    checks.rule(x, 12, 0, 5, 2);
    checks.due("trees(), one more", x.trees(), MOST);
    checks.rule(x, 13, 0, 2, 5);
    checks.due("trees(), two more", x.trees(), MOST);
  }

  /** Maker 1 alone has a billion trees; four of them, more than a long can hold. */
  private static void farBeyondTheMost() {
    checks.says("1000000000 when there are more");
    trees(MOST, Grammars.DIGITS, 6);
    int[][] rules = Grammars.DIGITS.clone();
    for (int[] rule : new int[][] {{0, 1}, {0, 1, 1}, {0, 1, 1, 1}, {0, 1, 1, 1, 1}}) {
      rules[0] = rule;
      trees(MOST, rules);
    }
    Subject x = checks.grammar(rules);
    int[][] sides = {{1}, {1, 1}, {1, 1, 1}, {2, 1, 1, 1}, {1, 2, 1, 1}, {1, 1, 2, 1}};
    for (int n = 0; n < sides.length; n++) {
      checks.rule(x, 8 + n, 0, sides[n]);
      checks.due("trees() by " + (n + 2) + " rules of maker 0", x.trees(), MOST);
    }
    int[] many = {64, 2016, 41664, 635376, 7624512, 74974368, 621216192};
    Subject y = checks.grammar(new int[][] {{0, 1, 1, 1, 1}, {1, 2, 2, 2, 2}, {2, 3, 3, 3, 3}, {3, 6}, {3}});
    for (int n = 0; n < 10; n++) {
      checks.words(y, 6);
      checks.due("trees() of " + (n + 1) + " words in 64 places", y.trees(), n < 7 ? many[n] : MOST);
    }
  }

  /** Maker 1 has more trees than can be told, but the text is not accepted, or not by it. */
  private static void mostInAPartOnly() {
    checks.says("How many trees the text has");
    int[][] rules = Grammars.DIGITS.clone();
    rules[0] = new int[] {0, 1, 7};
    trees(0, rules, 6);
    rules[0] = new int[] {0, 5, 6};
    trees(1, rules, 6);
    rules[0] = new int[] {0, 2, 6};
    trees(1000, rules, 6);
    rules[0] = new int[] {0, 2, 2, 6};
    trees(1000000, rules, 6);
    rules[0] = new int[] {0, 2, 2, 2, 6};
    trees(MOST, rules, 6);
  }

  private static void endlessDirectly() {
    checks.says("NONE when there are endlessly many");
    trees(0, new int[][] {{0, 0}}, 6);
    trees(1, new int[][] {{0, 6}}, 6);
    trees(-1, new int[][] {{0, 0}, {0, 6}}, 6);
    trees(-1, new int[][] {{0, 0}, {0}});
    trees(-1, new int[][] {{0, 0, 0}, {0}});
    trees(-1, new int[][] {{0, 0, 0}, {0, 6}, {0}}, 6);
    trees(-1, new int[][] {{0, 1}, {1, 1}, {1, 6}}, 6);
    trees(-1, new int[][] {{0, 7, 1}, {1, 1}, {1, 6}}, 7, 6);
  }

  /** Round through two to six makers; without the last rule there is one tree. */
  private static void endlessByOthers() {
    checks.says("belongs, directly or by others, to a family of itself");
    for (int last = 1; last <= 5; last++) {
      int[][] rules = new int[last + 1][];
      for (int m = 0; m < last; m++) {
        rules[m] = new int[] {m, m + 1};
      }
      rules[last] = new int[] {last, 6};
      for (int back = 0; back <= last; back++) {
        Subject x = checks.grammar(rules, 6);
        checks.due("trees() of a chain to " + last, x.trees(), 1);
        checks.rule(x, last + 1, last, back);
        checks.due("trees() with a way from " + last + " to " + back, x.trees(), -1);
        checks.due("accepted()", x.accepted(), true);
        x.erase();
        checks.due("trees() of nothing", x.trees(), 0);
      }
    }
  }

  /** The other symbols of a rule make nothing, so a maker holds itself for the same part. */
  private static void endlessByEmptyParts() {
    checks.says("belongs, directly or by others, to a family of itself");
    for (int at = 0; at < 4; at++) {
      int[] rule = {0, 1, 1, 1, 1};
      rule[at + 1] = 0;
      Subject x = checks.grammar(new int[][] {rule, {0, 6}, {1, 7}}, 6);
      checks.due("trees() where maker 1 is a word", x.trees(), 1);
      checks.rule(x, 3, 1);
      checks.due("trees() where maker 1 may be empty, itself at " + at, x.trees(), -1);
      // One symbol that cannot be empty is enough against it.
      rule[(at + 1) % 4 + 1] = 2;
      Subject y = checks.grammar(new int[][] {rule, {0, 6}, {1}, {2, 7}}, 6);
      checks.due("trees() where maker 2 is a word, itself at " + at, y.trees(), 1);
    }
    trees(-1, new int[][] {{0, 6, 1}, {1, 1, 1}, {1}}, 6);
    trees(-1, new int[][] {{0, 6, 1, 6}, {1, 2}, {2, 1}, {2}}, 6, 6);
    trees(-1, new int[][] {{0, 6, 6, 6, 1}, {1, 2, 2}, {2, 1, 1}, {2}}, 6, 6, 6);
  }

  private static void goingRoundUnused() {
    checks.says("a part with its maker that is used");
    int[][] rules = {{0, 6}, {1, 1}, {1, 6}, {1, 7}, {0, 1, 7}};
    trees(1, rules, 6);
    trees(-1, rules, 6, 7);
    trees(0, rules, 6, 7, 7);
    trees(0, new int[][] {{0, 0}, {0, 6}}, 7);
    trees(0, new int[][] {{0, 0, 0}, {0}}, 6);
    // Maker 2 goes round for the empty part, but the text has no use for it.
    trees(1, new int[][] {{0, 6}, {0, 2, 7}, {2, 2}, {2}}, 6);
    trees(-1, new int[][] {{0, 6}, {0, 2, 7}, {2, 2}, {2}}, 7);
  }

  /** A family of itself must be a family: every symbol must stand for its part. */
  private static void goingRoundWithoutTrees() {
    checks.says("so that every symbol stands for its part");
    trees(1, new int[][] {{0, 6}, {0, 1}, {1, 0, 2}, {2, 2}}, 6);
    trees(1, new int[][] {{0, 6}, {0, 1}, {1, 1}}, 6);
    trees(1, new int[][] {{0, 6}, {0, 0, 1}}, 6);
  }

  private static void itselfForAnotherPart() {
    checks.says("to a family of itself");
    trees(1, new int[][] {{0, 6, 0}, {0}}, Checks.times(6, 10));
    trees(1, new int[][] {{0, 0, 6}, {0}}, Checks.times(6, 10));
    trees(4862, Grammars.PAIRS, Checks.times(6, 10));
    trees(1, new int[][] {{0, 1}, {1, 6, 0}, {1, 6}}, Checks.times(6, 10));
  }
}
