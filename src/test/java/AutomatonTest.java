/** Promises 7 to 11: states, leads, reduces, stands, frontier. */
public final class AutomatonTest {
  private static final int[] WRONG = {-1, 60, 61, 64, 1000, Integer.MIN_VALUE, Integer.MAX_VALUE};
  private static final Checks checks = new Checks();

  public static void main(String[] args) {
    noRules();
    brackets();
    order();
    nullableTails();
    frontierOfBrackets();
    frontierThroughEmptyParts();
    wrongPlaces();
    checks.end("AutomatonTest");
  }

  private static void noRules() {
    NulledForest x = new NulledForest();
    table(x, new int[][] {{0, 0, 1}});
    checks.due("reduces(0)", x.reduces(0), 0);
    checks.due("reduces(1)", x.reduces(1), 0);
    checks.due("reduces(2)", x.reduces(2), -1);
    checks.rule(x, 0, 1, 6);
    checks.due("states() with a rule that no state sees", x.states(), 2);
  }

  /** Every move of the automaton, each as state, symbol and goal; all others lead nowhere. */
  private static void table(NulledForest x, int[][] moves) {
    int[][] want = new int[x.states()][10];
    for (int[] row : want) {
      java.util.Arrays.fill(row, -1);
    }
    for (int[] move : moves) {
      want[move[0]][move[1]] = move[2];
    }
    for (int s = 0; s < want.length; s++) {
      for (int a = 0; a < 10; a++) {
        checks.due("leads(" + s + ", " + a + ")", x.leads(s, a), want[s][a]);
      }
      for (int none : WRONG) {
        checks.due("leads(" + s + ", " + none + ")", x.leads(s, none), -1);
      }
      checks.due("leads(" + s + ", 10)", x.leads(s, 10), -1);
    }
    for (int none : WRONG) {
      checks.due("leads(" + none + ", 0)", x.leads(none, 0), -1);
      checks.due("reduces(" + none + ")", x.reduces(none), -1);
    }
    checks.due("leads behind the last state", x.leads(want.length, 0), -1);
    checks.due("reduces behind the last state", x.reduces(want.length), -1);
  }

  private static NulledForest bracketGrammar() {
    NulledForest x = new NulledForest();
    checks.rule(x, 0, 0, 6, 0, 7);
    checks.rule(x, 1, 0);
    return x;
  }

  private static void brackets() {
    NulledForest x = bracketGrammar();
    checks.due("states()", x.states(), 5);
    table(x, new int[][] {{0, 0, 1}, {0, 6, 2}, {2, 0, 3}, {2, 6, 2}, {3, 7, 4}});
    int[] reduces = {1, 0, 1, 0, 1};
    for (int s = 0; s < 5; s++) {
      checks.due("reduces(" + s + ")", x.reduces(s), reduces[s]);
    }
  }

  /** The words come in before the makers, but the makers' states are found first. */
  private static void order() {
    NulledForest x = new NulledForest();
    checks.rule(x, 0, 0, 9);
    checks.rule(x, 1, 0, 6, 2);
    checks.rule(x, 2, 0, 2, 1);
    checks.rule(x, 3, 2, 7);
    checks.rule(x, 4, 1, 8, 8);
    checks.due("states()", x.states(), 10);
    table(x, new int[][] {{0, 0, 1}, {0, 2, 2}, {0, 6, 3}, {0, 7, 4}, {0, 9, 5}, {2, 1, 6}, {2, 8, 7},
        {3, 2, 8}, {3, 7, 4}, {7, 8, 9}});
  }

  private static void nullableTails() {
    NulledForest x = new NulledForest();
    checks.rule(x, 0, 0, 1, 2);
    checks.rule(x, 1, 1);
    checks.rule(x, 2, 2, 6);
    checks.due("reduces(0) while maker 2 is not nullable", x.reduces(0), 1);
    checks.rule(x, 3, 2);
    checks.due("states()", x.states(), 5);
    table(x, new int[][] {{0, 0, 1}, {0, 1, 2}, {2, 2, 3}, {2, 6, 4}});
    int[] reduces = {2, 0, 2, 1, 1};
    for (int s = 0; s < 5; s++) {
      checks.due("reduces(" + s + ")", x.reduces(s), reduces[s]);
    }
    checks.words(x, 7, 7);
    checks.due("reduces(0) whatever the text", x.reduces(0), 2);
  }

  private static void frontierIs(NulledForest x, int place, int... states) {
    checks.due("frontier(" + place + ")", x.frontier(place), states.length);
    for (int s = -1; s <= 60; s++) {
      boolean want = false;
      for (int state : states) {
        want |= state == s;
      }
      checks.due("stands(" + place + ", " + s + ")", x.stands(place, s), want);
    }
  }

  private static void frontierOfBrackets() {
    NulledForest x = bracketGrammar();
    frontierIs(x, 0, 0, 1);
    checks.words(x, 6, 6, 7, 7);
    frontierIs(x, 0, 0, 1);
    frontierIs(x, 1, 2, 3);
    frontierIs(x, 2, 2, 3);
    frontierIs(x, 3, 3, 4);
    frontierIs(x, 4, 1, 4);
    x.erase();
    checks.words(x, 7, 6);
    frontierIs(x, 1);
    frontierIs(x, 2);
  }

  /** Maker 1 stands for nothing and for 6, so the states behind it are there with no word at all. */
  private static void frontierThroughEmptyParts() {
    NulledForest x = new NulledForest();
    checks.rule(x, 0, 0, 1, 1, 7);
    checks.rule(x, 1, 1);
    checks.rule(x, 2, 1, 6);
    table(x, new int[][] {{0, 0, 1}, {0, 1, 2}, {0, 6, 3}, {2, 1, 4}, {2, 6, 3}, {4, 7, 5}});
    checks.words(x, 6, 7);
    frontierIs(x, 0, 0, 2, 4);
    frontierIs(x, 1, 2, 3, 4);
    frontierIs(x, 2, 1, 5);
  }

  private static void wrongPlaces() {
    NulledForest x = bracketGrammar();
    checks.words(x, 6, 7);
    for (int none : new int[] {-1, 3, 10, 11, Integer.MIN_VALUE, Integer.MAX_VALUE}) {
      checks.due("frontier(" + none + ")", x.frontier(none), -1);
      checks.due("stands(" + none + ", 0)", x.stands(none, 0), false);
      checks.due("stands(" + none + ", 2)", x.stands(none, 2), false);
    }
    for (int none : WRONG) {
      checks.due("stands(0, " + none + ")", x.stands(0, none), false);
    }
    checks.due("stands(0, 5)", x.stands(0, 5), false);
  }
}
