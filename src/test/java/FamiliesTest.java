/** Promise 14: families. */
public final class FamiliesTest {
  private static final Checks checks = new Checks("FamiliesTest");

  public static void main(String[] args) {
    ruleWithItsCuts();
    eachSizeOfRule();
    everySymbolStands();
    emptyParts();
    mostOfThem();
    endless();
    notUsed();
    noSuchPart();
    checks.end();
  }

  private static void families(int want, int[][] rules, int... words) {
    checks.due("families(0, 0, " + words.length + ")", checks.grammar(rules, words).families(0, 0, words.length), want);
  }

  private static void ruleWithItsCuts() {
    checks.says("A FAMILY of a maker and a part is a rule with this left side together with the places where it cuts");
    Subject x = checks.grammar(Grammars.PAIRS);
    for (int length = 1; length <= 10; length++) {
      checks.words(x, 6);
      for (int i = 0; i < length; i++) {
        for (int j = i + 1; j <= length; j++) {
          checks.due("families(0, " + i + ", " + j + ") of " + length, x.families(0, i, j), j == i + 1 ? 1 : j - i - 1);
        }
      }
    }
  }

  /** Maker 1 is any row of sixes, so the families are all ways to cut. */
  private static void eachSizeOfRule() {
    checks.says("a way to cut the part into as many parts .. as its right side has symbols");
    for (int size = 0; size <= 4; size++) {
      int[] rule = java.util.Arrays.copyOf(new int[] {0, 1, 1, 1, 1}, size + 1);
      for (int length = 0; length <= 10; length++) {
        families(ways(length, size), new int[][] {rule, {1, 6, 1}, {1}}, Checks.times(6, length));
      }
    }
    checks.due("the ways to cut ten words into four parts", ways(10, 4), 286);
  }

  private static int ways(int length, int parts) {
    if (parts == 0) {
      return length == 0 ? 1 : 0;
    }
    int sum = 0;
    for (int first = 0; first <= length; first++) {
      sum += ways(length - first, parts - 1);
    }
    return sum;
  }

  private static void everySymbolStands() {
    checks.says("so that every symbol stands for its part");
    int[][] rules = {{0, 1, 7, 1}, {1, 6, 1}, {1, 7, 1}, {1}};
    families(1, rules, 6, 7, 6);
    families(2, rules, 6, 7, 7);
    families(3, rules, 7, 7, 7);
    families(0, rules, 6, 6, 6);
    families(1, new int[][] {{0, 6, 7, 8, 9}, {0, 6, 7, 8}}, 6, 7, 8, 9);
    // The same words by two rules, and by a rule of another maker, which does not count.
    families(2, new int[][] {{0, 6, 7}, {0, 6, 1}, {1, 7}, {2, 6, 7}}, 6, 7);
  }

  private static void emptyParts() {
    checks.says("one behind the other (they may be empty)");
    Subject x = checks.grammar(new int[][] {{0, 1, 2}, {0, 2}, {0}, {1}, {2, 1, 1}, {2}});
    checks.uses(x, new int[][] {{0, 0, 0, 3}, {1, 0, 0, 1}, {2, 0, 0, 2}});
  }

  /** Eleven rules of four makers each, all of which are any row of sixes. */
  private static void mostOfThem() {
    checks.says("How many families a part with its maker has");
    int[][] rules = new int[14][];
    for (int n = 0; n < 11; n++) {
      rules[n] = new int[] {0, 1 + (n & 1), 1 + (n >> 1 & 1), 1 + (n >> 2 & 1), 1 + (n >> 3 & 1)};
    }
    rules[11] = new int[] {1, 6, 1};
    rules[12] = new int[] {1};
    rules[13] = new int[] {2, 1};
    families(3146, rules, Checks.times(6, 10));
    families(11, rules);
  }

  private static void endless() {
    checks.says("How many families a part with its maker has");
    Subject x = checks.grammar(new int[][] {{0, 1, 0, 1}, {0, 6}, {1, 7}, {1}}, 7, 6, 7);
    checks.due("trees()", x.trees(), -1);
    checks.due("families(0, 0, 3)", x.families(0, 0, 3), 4);
    Subject y = checks.grammar(new int[][] {{0, 6, 1}, {1, 1, 1}, {1}}, 6);
    checks.uses(y, new int[][] {{0, 0, 1, 1}, {1, 1, 1, 2}});
  }

  private static void notUsed() {
    checks.says("0 when it is not used");
    // Maker 1 has two families for 6, maker 3 one for 6 6: neither is used everywhere.
    Subject x = checks.grammar(new int[][] {{0, 1, 6}, {1, 6}, {1, 2}, {2, 6}, {3, 1, 1}}, 6, 6);
    checks.due("families(1, 0, 1)", x.families(1, 0, 1), 2);
    checks.due("families(1, 1, 2)", x.families(1, 1, 2), 0);
    checks.due("families(3, 0, 2)", x.families(3, 0, 2), 0);
    checks.due("families(0, 0, 2)", x.families(0, 0, 2), 1);
    checks.words(x, 6);
    for (int m = 0; m < 4; m++) {
      checks.due("families(" + m + ", 0, 1) of a text that is not accepted", x.families(m, 0, 1), 0);
      checks.due("families(" + m + ", 0, 2) of a text that is not accepted", x.families(m, 0, 2), 0);
    }
  }

  private static void noSuchPart() {
    checks.says("0 when it is not used");
    for (int length = 0; length <= 10; length++) {
      Subject x = checks.grammar(new int[][] {{0, 6, 5}, {0}, {5, 6, 5}, {5}}, Checks.times(6, length));
      int used = length > 0 ? 5 : 0;
      checks.due("families of the last empty part", x.families(used, length, length), 1);
      for (int[] part : new int[][] {{used, length + 1, length + 1}, {used, length, length + 1}, {used, 0, length + 1},
          {used, -1, length}, {used, -1, -1}, {used, length, length - 1}, {-1, length, length}, {6, length, length},
          {6, 0, length}, {10, 0, length}, {Integer.MIN_VALUE, 0, length}, {Integer.MAX_VALUE, 0, length},
          {0, Integer.MIN_VALUE, length}, {0, Integer.MAX_VALUE, length}, {0, 0, Integer.MAX_VALUE},
          {0, 0, Integer.MIN_VALUE}, {0, 0, 32 + length}, {0, 32, 32 + length}}) {
        checks.due("families" + java.util.Arrays.toString(part), x.families(part[0], part[1], part[2]), 0);
      }
    }
  }
}
