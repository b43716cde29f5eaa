/** Promise 8: leads. */
public final class LeadsTest {
  private static final int[] FAR = {Integer.MIN_VALUE, -1000000, -61, 100, 65536, Integer.MAX_VALUE};
  private static final Checks checks = new Checks("LeadsTest");

  public static void main(String[] args) {
    stateZero();
    brackets();
    closedAllTheWay();
    numberedAsFound();
    nowhere();
    noSuchState();
    noSuchSymbol();
    sixtyStates();
    checks.end();
  }

  private static void stateZero() {
    checks.says("State 0 is the start with dot 0, closed.");
    checks.moves(new Subject(), new int[][] {{0, 0, 1}});
    checks.moves(checks.grammar(new int[][] {{0}}), new int[][] {{0, 0, 1}});
    checks.moves(checks.grammar(new int[][] {{0, 0}}), new int[][] {{0, 0, 1}});
    checks.moves(checks.grammar(new int[][] {{1, 6}, {5, 7}}), new int[][] {{0, 0, 1}});
  }

  private static void brackets() {
    checks.says("From a state a symbol LEADS to the state of all items that its items before that symbol become");
    checks.moves(checks.grammar(Grammars.BRACKETS),
        new int[][] {{0, 0, 1}, {0, 6, 2}, {2, 0, 3}, {2, 6, 2}, {3, 7, 4}});
  }

  /** By a chain through all makers, in a grammar whose rules come in the order that helps least. */
  private static void closedAllTheWay() {
    checks.says("with an item whose dot stands before a maker, all items with dot 0 of rules with that left side");
    checks.moves(checks.grammar(new int[][] {{5, 6}, {4, 5}, {3, 4}, {2, 3}, {1, 2}, {0, 1}}),
        new int[][] {{0, 0, 1}, {0, 1, 2}, {0, 2, 3}, {0, 3, 4}, {0, 4, 5}, {0, 5, 6}, {0, 6, 7}});
  }

  /** The rules with words come first, but the makers' states are found first. */
  private static void numberedAsFound() {
    checks.says("States are numbered as they are found: from state 0 on, in order, by the symbols 0 .. 9.");
    checks.moves(checks.grammar(new int[][] {{0, 9}, {0, 6, 2}, {0, 2, 1}, {2, 7}, {1, 8, 8}}),
        new int[][] {{0, 0, 1}, {0, 2, 2}, {0, 6, 3}, {0, 7, 4}, {0, 9, 5}, {2, 1, 6}, {2, 8, 7}, {3, 2, 8},
            {3, 7, 4}, {7, 8, 9}});
  }

  /** Not behind the end of a rule, and not over a maker that is nullable. */
  private static void nowhere() {
    checks.says("NONE for nowhere");
    checks.moves(checks.grammar(new int[][] {{0, 1, 6}, {1}}), new int[][] {{0, 0, 1}, {0, 1, 2}, {2, 6, 3}});
  }

  private static void noSuchState() {
    checks.says("NONE .. when there is no such state");
    Subject x = checks.grammar(Grammars.PAIRS);
    checks.due("states()", x.states(), 4);
    for (int symbol = -1; symbol <= 10; symbol++) {
      checks.due("leads(-1, " + symbol + ")", x.leads(-1, symbol), -1);
      checks.due("leads(4, " + symbol + ")", x.leads(4, symbol), -1);
      for (int state : FAR) {
        checks.due("leads(" + state + ", " + symbol + ")", x.leads(state, symbol), -1);
      }
    }
    checks.due("leads(0, 0)", x.leads(0, 0), 1);
    checks.due("leads(3, 0)", x.leads(3, 0), 3);
    checks.due("leads(3, 6)", x.leads(3, 6), 2);
    // States of a grammar that is no more.
    Subject y = checks.grammar(Grammars.SIXTY);
    checks.due("leads(59, 1)", y.leads(59, 1), 4);
    y.clear();
    for (int state = 1; state <= 60; state++) {
      checks.due("leads(" + state + ", 1) behind clear()", y.leads(state, 1), -1);
      checks.due("leads(" + state + ", 6) behind clear()", y.leads(state, 6), -1);
    }
  }

  private static void noSuchSymbol() {
    checks.says("NONE .. when there is no such .. symbol");
    Subject x = checks.grammar(new int[][] {{0, 9}, {0, 0}, {0, 5}, {0, 6}});
    checks.due("leads(0, 0)", x.leads(0, 0), 1);
    checks.due("leads(0, 5)", x.leads(0, 5), 2);
    checks.due("leads(0, 6)", x.leads(0, 6), 3);
    checks.due("leads(0, 9)", x.leads(0, 9), 4);
    for (int state = 0; state < 5; state++) {
      checks.due("leads(" + state + ", -1)", x.leads(state, -1), -1);
      checks.due("leads(" + state + ", 10)", x.leads(state, 10), -1);
      for (int symbol : FAR) {
        checks.due("leads(" + state + ", " + symbol + ")", x.leads(state, symbol), -1);
      }
    }
  }

  private static void sixtyStates() {
    checks.says("To which state a symbol leads from a state");
    Subject x = checks.grammar(Grammars.SIXTY);
    checks.due("leads(53, 6)", x.leads(53, 6), 59);
    checks.due("leads(59, 1)", x.leads(59, 1), 4);
    checks.due("leads(59, 6)", x.leads(59, 6), 56);
    checks.due("leads(59, 0)", x.leads(59, 0), -1);
    checks.due("leads(60, 1)", x.leads(60, 1), -1);
    checks.due("leads(60, 6)", x.leads(60, 6), -1);
  }
}
