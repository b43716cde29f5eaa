/** Promise 7: states. */
public final class StatesTest {
  private static final Checks checks = new Checks("StatesTest");

  public static void main(String[] args) {
    withoutRules();
    fewStates();
    anItemForEveryDot();
    sameItemsAreOneState();
    upToSixty();
    checks.end();
  }

  private static void states(int want, int[]... rules) {
    checks.due("states() of " + java.util.Arrays.deepToString(rules), checks.grammar(rules).states(), want);
  }

  private static void withoutRules() {
    checks.says("(2 without rules)");
    Subject x = new Subject();
    checks.due("states()", x.states(), 2);
    checks.words(x, 6, 7);
    checks.due("states() with a text", x.states(), 2);
    checks.rule(x, 0, 0, 6);
    checks.due("states() with a rule", x.states(), 3);
    checks.due("clear()", x.clear(), 1);
    checks.due("states() behind clear()", x.states(), 2);
  }

  private static void fewStates() {
    checks.says("How many states the automaton has");
    states(2, new int[][] {{0}});
    states(2, new int[][] {{0, 0}});
    states(2, new int[][] {{1, 6}, {2, 7}, {5, 0}});
    states(3, new int[][] {{0, 6}});
    states(3, new int[][] {{0, 0, 0}});
    states(3, new int[][] {{0, 1}, {1}});
  }

  /** A rule no symbol of which begins another brings a state for each of its symbols. */
  private static void anItemForEveryDot() {
    checks.says("An ITEM is a rule and a DOT, 0 .. the length of its right side");
    states(2, new int[][] {{0}});
    states(3, new int[][] {{0, 6}});
    states(4, new int[][] {{0, 6, 7}});
    states(5, new int[][] {{0, 6, 7, 8}});
    states(6, new int[][] {{0, 6, 7, 8, 9}});
    states(10, new int[][] {{0, 6, 7, 8, 9}, {0, 7, 8, 9, 6}});
  }

  private static void sameItemsAreOneState() {
    checks.says("A STATE is a set of items");
    // Maker 1 begins after 6, 7 and 8, and its own states are the same each time.
    states(10, new int[][] {{0, 6, 1}, {0, 7, 1}, {0, 8, 1}, {1, 9, 9}});
    // Rules that begin alike share their states as far as they do.
    states(6, new int[][] {{0, 6, 6, 7}, {0, 6, 6, 8}});
  }

  private static void upToSixty() {
    checks.says("How many states the automaton has");
    int[] after = {6, 6, 12, 15, 21, 26, 29, 29, 45, 59, 60, 60, 60};
    Subject x = new Subject();
    for (int n = 0; n < after.length; n++) {
      int[] rule = Grammars.SIXTY[n];
      checks.rule(x, n, rule[0], java.util.Arrays.copyOfRange(rule, 1, rule.length));
      checks.due("states() of " + (n + 1) + " rules", x.states(), after[n]);
    }
    checks.words(x, Checks.times(6, 10));
    checks.due("states() with a text", x.states(), 60);
    checks.due("erase()", x.erase(), 10);
    checks.due("states() without it", x.states(), 60);
  }
}
