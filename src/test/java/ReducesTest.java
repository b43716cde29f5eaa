/** Promise 9: reduces. */
public final class ReducesTest {
  private static final Checks checks = new Checks("ReducesTest");

  public static void main(String[] args) {
    noneBehindTheDot();
    nullableMakersBehindTheDot();
    allSymbolsBehindTheDot();
    notTheStart();
    asManyAsThereAre();
    whateverTheText();
    noSuchState();
    checks.end();
  }

  private static void noneBehindTheDot() {
    checks.says("(also when none is behind it)");
    checks.reduces(checks.grammar(Grammars.BRACKETS), 1, 0, 1, 0, 1);
    checks.reduces(checks.grammar(new int[][] {{0, 6, 7, 8, 9}}), 0, 0, 0, 0, 0, 1);
    checks.reduces(checks.grammar(new int[][] {{0}}), 1, 0);
  }

  private static void nullableMakersBehindTheDot() {
    checks.says("A state REDUCES an item of a rule in it when all symbols behind its dot are nullable makers");
    Subject x = checks.grammar(new int[][] {{0, 1, 2}, {1}, {2, 6}});
    checks.reduces(x, 1, 0, 0, 1, 1);
    checks.rule(x, 3, 2);
    checks.reduces(x, 2, 0, 2, 1, 1);
  }

  /** A word, or a maker that is not nullable, at each place of a right side: no dot before it counts. */
  private static void allSymbolsBehindTheDot() {
    checks.says("when all symbols behind its dot are nullable makers");
    for (int at = 0; at <= 4; at++) {
      for (int other : new int[] {6, 9, 2}) {
        int[] rule = {0, 1, 1, 1, 1};
        if (at < 4) {
          rule[at + 1] = other;
        }
        Subject x = checks.grammar(new int[][] {rule, {1}, {2, 8}});
        int state = 0;
        for (int dot = 0; dot <= 4; dot++) {
          boolean last = at == 4 || dot > at;
          boolean closesOne = dot < 4 && rule[dot + 1] == 1;
          checks.due("reduces(" + state + ") at dot " + dot + ", " + other + " at " + at, x.reduces(state),
              (last ? 1 : 0) + (closesOne ? 1 : 0));
          state = dot < 4 ? x.leads(state, rule[dot + 1]) : state;
        }
      }
    }
  }

  private static void notTheStart() {
    checks.says("an item of a rule");
    checks.reduces(new Subject(), 0, 0);
    checks.reduces(checks.grammar(new int[][] {{1}}), 0, 0);
    // Maker 0 is nullable: the start's items would count here, if they did.
    checks.reduces(checks.grammar(new int[][] {{0}}), 1, 0);
  }

  private static void asManyAsThereAre() {
    checks.says("How many items of a state it reduces");
    int[][] rules = {{0}, {0, 0}, {0, 0, 0}, {0, 0, 0, 0}, {0, 0, 0, 0, 0}, {0, 1}, {0, 1, 1}, {0, 1, 1, 1},
        {0, 1, 1, 1, 1}, {1}, {1, 0}, {1, 0, 0}, {1, 0, 0, 0}, {1, 0, 0, 0, 0}};
    Subject x = checks.grammar(rules);
    checks.due("reduces(0) of fourteen items", x.reduces(0), 14);
    // Behind maker 0: the eight rules that begin with it, moved on, and all with dot 0.
    checks.due("reduces(1)", x.reduces(1), 8 + 14);
    checks.reduces(checks.grammar(Grammars.FOURTEEN), 0, 0, 0, 1, 1, 1, 1, 1, 1, 2, 2, 2, 2);
  }

  private static void whateverTheText() {
    checks.says("How many items of a state it reduces");
    Subject x = checks.grammar(new int[][] {{0, 1, 2}, {1}, {2, 6}, {2}}, Checks.times(9, 9));
    checks.reduces(x, 2, 0, 2, 1, 1);
    checks.words(x, 9);
    checks.reduces(x, 2, 0, 2, 1, 1);
    x.erase();
    checks.reduces(x, 2, 0, 2, 1, 1);
    x.clear();
    checks.reduces(x, 0, 0);
  }

  private static void noSuchState() {
    checks.says("NONE when there is no such state");
    Subject x = checks.grammar(Grammars.SIXTY);
    checks.due("reduces(58)", x.reduces(58), 4);
    checks.due("reduces(59)", x.reduces(59), 2);
    for (int none : new int[] {-2, -1, 60, 61, 63, 64, 128, Integer.MIN_VALUE, Integer.MAX_VALUE}) {
      checks.due("reduces(" + none + ")", x.reduces(none), -1);
    }
    x.clear();
    checks.due("reduces(1)", x.reduces(1), 0);
    checks.due("reduces(2) without rules", x.reduces(2), -1);
    checks.due("reduces(59) without rules", x.reduces(59), -1);
  }
}
