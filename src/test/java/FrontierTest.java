/** Promises 10 and 11: stands and frontier. */
public final class FrontierTest {
  private static final int[] FAR = {Integer.MIN_VALUE, -64, 63, 64, 100, Integer.MAX_VALUE};
  private static final Checks checks = new Checks("FrontierTest");

  public static void main(String[] args) {
    placeZero();
    brackets();
    throughEmptyParts();
    emptyPartsAtEveryPlace();
    nothingGoesOn();
    partsOfManyWords();
    eachSymbol();
    noSuchPlace();
    noSuchState();
    sixtyStates();
    checks.end();
  }

  private static void placeZero() {
    checks.says("(for j = 0 state 0 is among them)");
    checks.frontier(new Subject(), 0, 0);
    checks.frontier(checks.grammar(new int[][] {}, 6), 0, 0);
    checks.frontier(checks.grammar(new int[][] {}, 6), 1);
    checks.frontier(checks.grammar(Grammars.PAIRS, 7), 0, 0);
    checks.frontier(checks.grammar(new int[][] {{0}}), 0, 0, 1);
    checks.frontier(checks.grammar(new int[][] {{0}}, 6), 0, 0, 1);
    checks.frontier(checks.grammar(new int[][] {{0}}, 6), 1);
  }

  private static void brackets() {
    checks.says("the first one standing for a part 0 .. a, the next one for a .. b, and so on, the last one ..");
    Subject x = checks.grammar(Grammars.BRACKETS, 6, 6, 7, 7);
    checks.frontier(x, 0, 0, 1);
    checks.frontier(x, 1, 2, 3);
    checks.frontier(x, 2, 2, 3);
    checks.frontier(x, 3, 3, 4);
    checks.frontier(x, 4, 1, 4);
    // What comes behind a place does not matter at it.
    Subject y = checks.grammar(Grammars.BRACKETS, 6, 6, 9, 9);
    checks.frontier(y, 0, 0, 1);
    checks.frontier(y, 1, 2, 3);
    checks.frontier(y, 2, 2, 3);
    checks.frontier(y, 3);
    checks.frontier(y, 4);
  }

  /** Maker 1 stands for nothing and for 6, so the states behind it are there with no word at all. */
  private static void throughEmptyParts() {
    checks.says("the first one standing for a part 0 .. a, the next one for a .. b, and so on, the last one ..");
    Subject x = checks.grammar(new int[][] {{0, 1, 1, 7}, {1}, {1, 6}}, 6, 7);
    checks.moves(x, new int[][] {{0, 0, 1}, {0, 1, 2}, {0, 6, 3}, {2, 1, 4}, {2, 6, 3}, {4, 7, 5}});
    checks.frontier(x, 0, 0, 2, 4);
    checks.frontier(x, 1, 2, 3, 4);
    checks.frontier(x, 2, 1, 5);
  }

  /** From a state found last, over empty parts, one comes back to states with lower numbers. */
  private static void emptyPartsAtEveryPlace() {
    checks.says("the states to which a row of symbols leads from state 0");
    Subject x = checks.grammar(new int[][] {{0, 1, 6, 1, 0}, {0, 1}, {1}}, Checks.times(6, 10));
    checks.moves(x, new int[][] {{0, 0, 1}, {0, 1, 2}, {2, 6, 3}, {3, 1, 4}, {4, 0, 5}, {4, 1, 2}});
    checks.frontier(x, 0, 0, 1, 2);
    for (int place = 1; place <= 10; place++) {
      checks.frontier(x, place, 1, 2, 3, 4, 5);
    }
  }

  private static void nothingGoesOn() {
    checks.says("How many states are in the frontier at a place");
    Subject x = checks.grammar(new int[][] {{0, 6}}, 6, 6, 6);
    checks.frontier(x, 0, 0);
    checks.frontier(x, 1, 1, 2);
    checks.frontier(x, 2);
    checks.frontier(x, 3);
    checks.frontier(checks.grammar(new int[][] {}, Checks.times(6, 10)), 10);
  }

  /** A maker goes over many words at once: ten and less, from the first place on. */
  private static void partsOfManyWords() {
    checks.says("the last one for a part that ends at j");
    int[][] rules = {{0, 1, 2}, {1, 6, 6, 6, 6}, {2, 3, 3}, {3, 6, 6, 6}};
    Subject x = checks.grammar(rules, Checks.times(6, 10));
    checks.due("accepted()", x.accepted(), true);
    checks.due("stands(4, leads(0, 1))", x.stands(4, x.leads(0, 1)), true);
    checks.due("stands(10, leads(0, 0))", x.stands(10, 1), true);
    for (int place = 0; place < 10; place++) {
      checks.due("stands(" + place + ", leads(0, 0))", x.stands(place, 1), false);
      checks.due("stands(" + place + ", leads(0, 1))", x.stands(place, x.leads(0, 1)), place == 4);
    }
  }

  /** Each word, and each maker, leads to its own state behind the word. */
  private static void eachSymbol() {
    checks.says("the states to which a row of symbols leads from state 0");
    int[][] rules = {{0, 1}, {0, 2}, {0, 3}, {0, 4}, {0, 5}, {1, 6}, {2, 7}, {3, 8}, {4, 9}, {5, 6}};
    checks.frontier(checks.grammar(rules, 6), 1, 1, 2, 6, 7);
    checks.frontier(checks.grammar(rules, 7), 1, 1, 3, 8);
    checks.frontier(checks.grammar(rules, 8), 1, 1, 4, 9);
    checks.frontier(checks.grammar(rules, 9), 1, 1, 5, 10);
    for (int w = 6; w < 10; w++) {
      checks.frontier(checks.grammar(new int[][] {{0, w}}, w), 1, 1, 2);
      checks.frontier(checks.grammar(new int[][] {{0, w}}, w == 9 ? 6 : w + 1), 1);
    }
  }

  private static void noSuchPlace() {
    checks.says("NONE when there is no such place");
    for (int length = 0; length <= 10; length++) {
      Subject x = checks.grammar(new int[][] {{0, 6, 0}, {0}}, Checks.times(6, length));
      checks.due("frontier(-1)", x.frontier(-1), -1);
      checks.due("frontier(0) of " + length, x.frontier(0), 2);
      checks.due("frontier(" + length + ")", x.frontier(length), length == 0 ? 2 : 3);
      checks.due("frontier(" + (length + 1) + ")", x.frontier(length + 1), -1);
      for (int far : FAR) {
        checks.due("frontier(" + far + ")", x.frontier(far), -1);
      }
      checks.says("false when there is no such place");
      for (int state = 0; state < 4; state++) {
        checks.due("stands(-1, " + state + ")", x.stands(-1, state), false);
        checks.due("stands(" + (length + 1) + ", " + state + ")", x.stands(length + 1, state), false);
        for (int far : FAR) {
          checks.due("stands(" + far + ", " + state + ")", x.stands(far, state), false);
        }
      }
      checks.due("stands(0, 0)", x.stands(0, 0), true);
      checks.due("stands(" + length + ", 1)", x.stands(length, 1), true);
      checks.says("NONE when there is no such place");
    }
    // Places of a text that is no more.
    Subject y = checks.grammar(new int[][] {{0, 6, 0}, {0}}, Checks.times(6, 10));
    checks.due("frontier(10)", y.frontier(10), 3);
    y.erase();
    checks.words(y, 6);
    checks.due("frontier(1)", y.frontier(1), 3);
    for (int place = 2; place <= 11; place++) {
      checks.due("frontier(" + place + ") behind erase()", y.frontier(place), -1);
      checks.due("stands(" + place + ", 1) behind erase()", y.stands(place, 1), false);
    }
  }

  private static void noSuchState() {
    checks.says("false when there is no such .. state");
    Subject x = checks.grammar(new int[][] {{0, 6, 0}, {0}}, Checks.times(6, 10));
    checks.due("states()", x.states(), 4);
    for (int place = 0; place <= 10; place++) {
      checks.frontier(x, place, place == 0 ? new int[] {0, 1} : new int[] {1, 2, 3});
      for (int far : FAR) {
        checks.due("stands(" + place + ", " + far + ")", x.stands(place, far), false);
      }
      // These would be states 0 and 2 if only their last bits were looked at.
      checks.due("stands(" + place + ", 64)", x.stands(place, 64), false);
      checks.due("stands(" + place + ", 66)", x.stands(place, 66), false);
      checks.due("stands(" + place + ", -62)", x.stands(place, -62), false);
    }
  }

  private static void sixtyStates() {
    checks.says("Whether a state is in the frontier at a place");
    int[] many = {1, 5, 12, 29, 44, 54, 59, 59, 59, 59, 59};
    Subject x = checks.grammar(Grammars.SIXTY, Checks.times(6, 10));
    for (int place = 0; place <= 10; place++) {
      checks.due("frontier(" + place + ")", x.frontier(place), many[place]);
      checks.due("stands(" + place + ", 0)", x.stands(place, 0), place == 0);
      checks.due("stands(" + place + ", 59)", x.stands(place, 59), place >= 5);
      checks.due("stands(" + place + ", 60)", x.stands(place, 60), false);
    }
  }
}
