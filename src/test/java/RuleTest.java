/** Promise 2: rule. */
public final class RuleTest {
  private static final int[] NO_SYMBOLS = {-2, 10, 11, Integer.MIN_VALUE, Integer.MAX_VALUE};
  private static final Checks checks = new Checks("RuleTest");

  public static void main(String[] args) {
    rightSide();
    number();
    noMaker();
    noSymbol();
    behindTheFirstEnd();
    fourteenRules();
    suchARule();
    manyRulesAndSuchARule();
    sixtyStates();
    refusedForSeveralReasons();
    whateverWasAsked();
    checks.end();
  }

  /** For each size a rule that makes a text of just this length. */
  private static void rightSide() {
    checks.says("its right side is a, b, c, d as far as the first that is -1");
    int[] symbols = {6, 7, 8, 9};
    for (int size = 0; size <= 4; size++) {
      int[] side = symbols.clone();
      if (size < 4) {
        side[size] = -1;
      }
      Subject x = new Subject();
      checks.due("a rule of " + size, x.rule(0, side[0], side[1], side[2], side[3]), 0);
      for (int words = 0; words <= 5; words++) {
        checks.due("accepted() of " + words + " words by a rule of " + size, x.accepted(), words == size);
        checks.words(x, words < 4 ? symbols[words] : 6);
      }
    }
  }

  private static void number() {
    checks.says("Answers its number.");
    Subject x = new Subject();
    checks.rule(x, 0, 0, 1, 2, 3, 4);
    checks.rule(x, -1, 0, 1, 2, 3, 4);
    checks.rule(x, -1, 6, 1);
    checks.rule(x, -1, 5, 10);
    checks.rule(x, 1, 1, 6, 7);
    checks.rule(x, 2, 2);
    checks.rule(x, 3, 3, 9);
    checks.rule(x, 4, 4, 9);
    checks.words(x, 6, 7, 9, 9);
    checks.row(x, 0, 0, 1, 2, 3, 4);
    checks.due("clear()", x.clear(), 5);
    checks.rule(x, 0, 4, 9);
    checks.rule(x, 1, 3, 9);
  }

  private static void noMaker() {
    checks.says("NONE when left is no maker");
    for (int left : new int[] {-2, -1, 6, 7, 9, 10, Integer.MIN_VALUE, Integer.MAX_VALUE}) {
      Subject x = new Subject();
      checks.rule(x, -1, left, 6);
      checks.rule(x, -1, left);
      checks.due("clear() behind a rule of " + left, x.clear(), 0);
    }
    for (int left = 0; left < 6; left++) {
      Subject x = new Subject();
      checks.rule(x, 0, left);
      for (int m = 0; m < 6; m++) {
        checks.due("nullable(" + m + ") with a rule of " + left, x.nullable(m), m == left);
      }
    }
  }

  private static void noSymbol() {
    checks.says("NONE when .. one of these symbols is none");
    for (int at = 0; at < 4; at++) {
      for (int none : NO_SYMBOLS) {
        int[] side = {6, 0, 5, 9};
        side[at] = none;
        Subject x = new Subject();
        checks.rule(x, -1, 0, side);
        checks.rule(x, -1, 0, java.util.Arrays.copyOf(side, at + 1));
        checks.due("states()", x.states(), 2);
        checks.due("clear()", x.clear(), 0);
      }
      for (int symbol = 0; symbol < 10; symbol++) {
        int[] side = {6, 0, 5, 9};
        side[at] = symbol;
        Subject x = new Subject();
        checks.rule(x, 0, 0, side);
        int state = 0;
        for (int before = 0; before < at; before++) {
          state = x.leads(state, side[before]);
        }
        checks.due("whether " + symbol + " leads on behind " + at, x.leads(state, symbol) > 0, true);
      }
    }
  }

  private static void behindTheFirstEnd() {
    checks.says("(behind the first -1 they may be any)");
    for (int any : new int[] {-2, -1, 0, 5, 6, 9, 10, Integer.MIN_VALUE, Integer.MAX_VALUE}) {
      Subject x = new Subject();
      checks.due("a rule of none, then " + any, x.rule(0, -1, any, any, any), 0);
      checks.due("a rule of one, then " + any, x.rule(0, 6, -1, any, any), 1);
      checks.due("a rule of two, then " + any, x.rule(0, 6, 7, -1, any), 2);
      checks.due("states()", x.states(), 4);
      checks.due("accepted() of nothing", x.accepted(), true);
      checks.words(x, 6);
      checks.due("accepted() of 6", x.accepted(), true);
      checks.words(x, 7);
      checks.due("accepted() of 6 7", x.accepted(), true);
      checks.due("trees()", x.trees(), 1);
    }
  }

  private static void fourteenRules() {
    checks.says("NONE when .. there are 14 rules");
    Subject x = checks.grammar(Grammars.FOURTEEN);
    checks.rule(x, -1, 0, 6);
    checks.rule(x, -1, 4);
    checks.rule(x, -1, 5, 6, 7, 8, 9);
    checks.words(x, 6);
    checks.due("accepted() by a rule that was not taken", x.accepted(), false);
    checks.words(x, 9);
    checks.row(x, 0, 0, 2, 9);
    checks.row(x, 1, 1, 2, 13);
    checks.due("trees()", x.trees(), 2);
    checks.due("clear()", x.clear(), 14);
    checks.rule(x, 0, 0, 6);
    for (int n = 1; n < 14; n++) {
      checks.rule(x, n, n % 6, 7 + n / 6, 6 + n % 4);
    }
    checks.rule(x, -1, 0, 9, 9, 9, 9);
    checks.due("clear()", x.clear(), 14);
  }

  private static void suchARule() {
    checks.says("NONE when .. there is such a rule");
    int[][] sides = {{}, {6}, {6, 0}, {6, 0, 7}, {6, 0, 7, 1}};
    for (int[] side : sides) {
      Subject x = new Subject();
      checks.rule(x, 0, 2, side);
      checks.rule(x, -1, 2, side);
      checks.rule(x, 1, 3, side);
      checks.rule(x, -1, 3, side);
      checks.rule(x, -1, 2, side);
      int number = 2;
      for (int at = 0; at < side.length; at++) {
        int[] other = side.clone();
        other[at]++;
        checks.rule(x, number++, 2, other);
        checks.rule(x, -1, 2, other);
      }
      for (int size = 0; size <= 4; size++) {
        if (size != side.length) {
          int[] other = java.util.Arrays.copyOf(side, size);
          java.util.Arrays.fill(other, Math.min(size, side.length), size, 9);
          checks.rule(x, number++, 2, other);
        }
      }
      checks.due("clear()", x.clear(), number);
      checks.rule(x, 0, 2, side);
    }
    Subject x = new Subject();
    checks.due("a rule", x.rule(0, 6, 7, -1, -1), 0);
    checks.due("the same, another symbol behind its end", x.rule(0, 6, 7, -1, 9), -1);
    checks.due("its symbols the other way round", x.rule(0, 7, 6, -1, -1), 1);
    checks.due("a rule of none", x.rule(0, -1, 6, 7, 8), 2);
    checks.due("a rule of none, other symbols behind its end", x.rule(0, -1, 7, 99, -5), -1);
  }

  /** The first, one between and the last of thirteen rules are all known again. */
  private static void manyRulesAndSuchARule() {
    checks.says("NONE when .. there is such a rule");
    Subject x = checks.grammar(java.util.Arrays.copyOf(Grammars.FOURTEEN, 13));
    for (int n = 0; n < 13; n++) {
      int[] rule = Grammars.FOURTEEN[n];
      checks.rule(x, -1, rule[0], java.util.Arrays.copyOfRange(rule, 1, rule.length));
    }
    checks.rule(x, 13, 3, 9);
  }

  private static void sixtyStates() {
    checks.says("NONE when .. the automaton would have more than 60 states");
    int[][] rules = Grammars.SIXTY;
    Subject x = checks.grammar(java.util.Arrays.copyOf(rules, 10));
    checks.due("states() of ten rules", x.states(), 59);
    checks.rule(x, 10, 2, 6, 2, 6, 2);
    checks.due("states() of eleven rules", x.states(), 60);
    checks.due("a rule to 61 states", tried(x, Grammars.TO_61), -1);
    checks.due("states() behind it", x.states(), 60);
    checks.due("a rule to 76 states", tried(x, Grammars.TO_76), -1);
    checks.due("states() behind it", x.states(), 60);
    checks.rule(x, 11, 1);
    checks.rule(x, 12, 2);
    checks.due("a rule to 61 states", tried(x, Grammars.TO_61), -1);
    checks.due("a rule to 76 states", tried(x, Grammars.TO_76), -1);
    checks.rule(x, 13, 4, 6, 7, 8, 9);
    checks.due("states() with rules that bring no states", x.states(), 60);
    checks.due("clear()", x.clear(), 14);
    checks.due("the first of these alone", tried(x, Grammars.TO_61), 0);
    checks.due("the other one beside it", tried(x, Grammars.TO_76), 1);
    Subject few = checks.grammar(Grammars.FROM_29);
    checks.due("states()", few.states(), 29);
    checks.due("a rule from 29 states to more than 60", tried(few, new int[] {2, 1, 0, 0, 5}), -1);
    checks.due("states() behind it", few.states(), 29);
    Subject one = checks.grammar(java.util.Arrays.copyOf(rules, 10));
    checks.due("a rule from 59 states to more than 60", tried(one, new int[] {0, 0, 0, 4, 7}), -1);
    checks.due("states() behind it", one.states(), 59);
  }

  private static void whateverWasAsked() {
    checks.says("Adds a rule");
    for (World world : World.all()) {
      Questions.same(checks, "asked between changes, " + world.name(), world::makeAndAsk, world::make);
      // The text first, then the rules, and questions between.
      Questions.same(checks, "text before rules, " + world.name(), x -> {
        world.makeText(x);
        Questions.askSome(x);
        world.makeRules(x);
      }, world::make);
    }
  }

  private static int tried(Subject x, int[] rule) {
    return x.rule(rule[0], rule[1], rule[2], rule[3], rule[4]);
  }

  private static void refusedForSeveralReasons() {
    checks.says("NONE when left is no maker, one of these symbols is none .. there is such a rule");
    Subject x = checks.grammar(Grammars.FOURTEEN);
    checks.rule(x, -1, -1, 6);
    checks.rule(x, -1, 6, 10);
    checks.rule(x, -1, 0, -2);
    checks.rule(x, -1, 0, 1, 2);
    checks.rule(x, -1, Integer.MAX_VALUE, Integer.MIN_VALUE);
    checks.due("clear()", x.clear(), 14);
  }
}
