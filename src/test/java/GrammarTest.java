/** Promises 1, 2, 5 and 6: a new object, rule, clear, nullable. */
public final class GrammarTest {
  private static final Checks checks = new Checks();

  public static void main(String[] args) {
    newObject();
    numbersOfRules();
    wrongRules();
    repeatedRules();
    fourteenRules();
    sixtyStates();
    clearing();
    nullables();
    checks.end("GrammarTest");
  }

  private static void newObject() {
    NulledForest x = new NulledForest();
    checks.due("NONE", NulledForest.NONE, -1);
    checks.due("states()", x.states(), 2);
    checks.due("accepted()", x.accepted(), false);
    checks.due("trees()", x.trees(), 0);
    checks.due("frontier(0)", x.frontier(0), 1);
    checks.due("frontier(1)", x.frontier(1), -1);
    checks.due("nullable(0)", x.nullable(0), false);
    checks.due("used(0, 0, 0)", x.used(0, 0, 0), false);
    checks.due("families(0, 0, 0)", x.families(0, 0, 0), 0);
    checks.due("length(0)", Checks.length(x, 0), Checks.ELEMENT);
    checks.due("made(0, 0)", Checks.made(x, 0, 0), Checks.ELEMENT);
    checks.due("erase()", x.erase(), 0);
    checks.due("clear()", x.clear(), 0);
    NulledForest other = new NulledForest();
    checks.rule(x, 0, 0, 6);
    checks.words(x, 6);
    checks.due("another object's accepted()", other.accepted(), false);
    checks.due("another object's clear()", other.clear(), 0);
  }

  private static void numbersOfRules() {
    NulledForest x = new NulledForest();
    checks.due("the first rule", x.rule(0, 1, 2, 3, 4), 0);
    checks.due("a rule cut behind two", x.rule(1, 6, 7, -1, 8), 1);
    checks.due("a rule cut at once", x.rule(2, -1, -5, 77, Integer.MAX_VALUE), 2);
    checks.due("a rule cut behind one", x.rule(3, 9, -1, Integer.MIN_VALUE, 10), 3);
    checks.due("a rule cut behind three", x.rule(5, 9, 0, 5, -1), 4);
    checks.due("a refused rule", x.rule(4, 10, -1, -1, -1), -1);
    checks.due("the number behind a refused rule", x.rule(4, 9, -1, -1, -1), 5);
    checks.words(x, 6, 7, 9, 9);
    checks.due("trees()", x.trees(), 1);
    checks.row(x, 0, 0, 1, 2, 3, 5);
    checks.due("clear()", x.clear(), 6);
  }

  private static void wrongRules() {
    NulledForest x = new NulledForest();
    for (int left : new int[] {-1, 6, 9, 10, Integer.MIN_VALUE, Integer.MAX_VALUE}) {
      checks.due("rule with left " + left, x.rule(left, 6, -1, -1, -1), -1);
    }
    for (int bad : new int[] {-2, 10, 99, Integer.MIN_VALUE, Integer.MAX_VALUE}) {
      checks.due("rule with a = " + bad, x.rule(0, bad, -1, -1, -1), -1);
      checks.due("rule with b = " + bad, x.rule(0, 6, bad, -1, -1), -1);
      checks.due("rule with c = " + bad, x.rule(0, 6, 0, bad, -1), -1);
      checks.due("rule with d = " + bad, x.rule(0, 6, 0, 9, bad), -1);
    }
    checks.due("states()", x.states(), 2);
    checks.due("clear()", x.clear(), 0);
    checks.rule(x, 0, 5, 0, 9, 5, 6);
  }

  private static void repeatedRules() {
    NulledForest x = new NulledForest();
    checks.rule(x, 0, 0, 6, 7);
    checks.due("the same rule", x.rule(0, 6, 7, -1, -1), -1);
    checks.due("the same rule, other symbols behind its end", x.rule(0, 6, 7, -1, 9), -1);
    checks.rule(x, 1, 1, 6, 7);
    checks.rule(x, 2, 0, 7, 6);
    checks.rule(x, 3, 0, 6);
    checks.rule(x, 4, 0, 6, 7, 7);
    checks.rule(x, 5, 0);
    checks.due("the same empty rule", x.rule(0, -1, 6, 7, 8), -1);
    checks.rule(x, 6, 1);
    checks.due("clear()", x.clear(), 7);
    checks.rule(x, 0, 0, 6, 7);
  }

  private static void fourteenRules() {
    NulledForest x = new NulledForest();
    int number = 0;
    for (int left = 1; left < 4; left++) {
      for (int w = 6; w < 10; w++) {
        checks.rule(x, number++, left, w);
      }
    }
    checks.rule(x, number++, 0, 1, 2);
    checks.rule(x, number++, 0, 1, 3);
    checks.due("a rule more", x.rule(0, 6, -1, -1, -1), -1);
    checks.words(x, 6);
    checks.due("accepted()", x.accepted(), false);
    checks.due("clear()", x.clear(), 14);
    checks.rule(x, 0, 0, 6);
  }

  private static void sixtyStates() {
    NulledForest x = new NulledForest();
    int[][] rules = {{1, 7, 0, 6, 6}, {0, 6, 6, 6, 0}, {1, 7, 6, 1, 6}, {1, 1, 6, 7, 6}, {0, 7, 6, 0, 7},
        {1, 6, 6, 6, 6}, {0, 1, 1, 6, 1}, {1, 6, 1, 7, 1}, {1, 7, 1, 0, 7}, {0, 6, 1, 1, 0}};
    for (int n = 0; n < rules.length; n++) {
      int[] r = rules[n];
      checks.due("rule " + n, x.rule(r[0], r[1], r[2], r[3], r[4]), n);
    }
    checks.due("states()", x.states(), 60);
    checks.words(x, 6, 6, 6);
    int[] before = seen(x);
    checks.due("a rule too many states", x.rule(1, 7, 6, 0, 6), -1);
    int[] after = seen(x);
    for (int n = 0; n < before.length; n++) {
      checks.due("what is seen behind the refused rule, " + n, after[n], before[n]);
    }
    checks.rule(x, 10, 2, 6);
    checks.due("states() with a rule that no state sees", x.states(), 60);
    checks.due("clear()", x.clear(), 11);
    checks.due("the refused rule alone", x.rule(1, 7, 6, 0, 6), 0);
  }

  private static int[] seen(NulledForest x) {
    int[] seen = new int[60 * 11 + 5];
    int n = 0;
    for (int s = 0; s < 60; s++) {
      for (int a = 0; a < 10; a++) {
        seen[n++] = x.leads(s, a);
      }
      seen[n++] = x.reduces(s);
    }
    for (int place = 0; place < 4; place++) {
      seen[n++] = x.frontier(place);
    }
    seen[n++] = x.states();
    return seen;
  }

  private static void clearing() {
    NulledForest x = new NulledForest();
    checks.rule(x, 0, 0, 6, 0);
    checks.rule(x, 1, 0);
    checks.words(x, 6, 6);
    checks.due("accepted()", x.accepted(), true);
    checks.due("clear()", x.clear(), 2);
    checks.due("states()", x.states(), 2);
    checks.due("accepted()", x.accepted(), false);
    checks.due("nullable(0)", x.nullable(0), false);
    checks.due("frontier(1)", x.frontier(1), -1);
    checks.due("leads(0, 6)", x.leads(0, 6), -1);
    checks.due("erase()", x.erase(), 0);
    checks.due("clear()", x.clear(), 0);
  }

  private static void nullables() {
    NulledForest x = new NulledForest();
    checks.rule(x, 0, 0, 1, 2, 1, 2);
    checks.rule(x, 1, 1, 2, 2);
    checks.rule(x, 2, 3, 3);
    checks.rule(x, 3, 4, 2, 6);
    checks.words(x, 6);
    checks.due("nullable(0) too early", x.nullable(0), false);
    checks.rule(x, 4, 2);
    for (int m = 0; m < 6; m++) {
      checks.due("nullable(" + m + ")", x.nullable(m), m < 3);
    }
    for (int none : new int[] {-1, 6, 9, 10, Integer.MIN_VALUE, Integer.MAX_VALUE}) {
      checks.due("nullable(" + none + ")", x.nullable(none), false);
    }
  }
}
