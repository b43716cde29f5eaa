/** Promise 5: clear. */
public final class ClearTest {
  private static final Checks checks = new Checks("ClearTest");

  public static void main(String[] args) {
    noRules();
    emptyText();
    howMany();
    sameAsNew();
    anotherGrammar();
    otherStates();
    checks.end();
  }

  private static void noRules() {
    checks.says("There are no rules");
    Subject x = checks.grammar(Grammars.BRACKETS, 6, 7);
    checks.due("accepted()", x.accepted(), true);
    x.clear();
    checks.due("states()", x.states(), 2);
    checks.due("nullable(0)", x.nullable(0), false);
    checks.due("leads(0, 6)", x.leads(0, 6), -1);
    checks.due("accepted() of nothing", x.accepted(), false);
    checks.words(x, 6, 7);
    checks.due("accepted() of 6 7", x.accepted(), false);
    checks.rule(x, 0, 0, 6, 0, 7);
    checks.due("accepted() by the first rule alone", x.accepted(), false);
    checks.rule(x, 1, 0);
    checks.due("accepted() by both", x.accepted(), true);
    Subject full = checks.grammar(Grammars.FOURTEEN);
    full.clear();
    for (int n = 0; n < 14; n++) {
      checks.rule(full, n, Grammars.FOURTEEN[13 - n][0], java.util.Arrays.copyOfRange(Grammars.FOURTEEN[13 - n], 1,
          Grammars.FOURTEEN[13 - n].length));
    }
    checks.rule(full, -1, 5);
  }

  private static void emptyText() {
    checks.says("and the text is empty.");
    for (int length = 0; length <= 10; length++) {
      Subject x = checks.grammar(Grammars.PAIRS, Checks.times(6, length));
      x.clear();
      checks.due("frontier(0)", x.frontier(0), 1);
      checks.due("frontier(1) behind a text of " + length, x.frontier(1), -1);
      checks.due("erase()", x.erase(), 0);
    }
  }

  private static void howMany() {
    checks.says("Answers how many rules there were.");
    for (int count = 0; count <= 14; count++) {
      Subject x = checks.grammar(java.util.Arrays.copyOf(Grammars.FOURTEEN, count), 6);
      checks.rule(x, -1, 6);
      checks.rule(x, -1, 0, 10);
      checks.due("clear() of " + count, x.clear(), count);
      checks.due("clear() again", x.clear(), 0);
    }
    Subject x = checks.grammar(Grammars.FOURTEEN);
    checks.rule(x, -1, 5);
    checks.due("clear() behind a rule that was not taken", x.clear(), 14);
    Subject sixty = checks.grammar(Grammars.SIXTY);
    checks.rule(sixty, -1, 0, 6, 2, 6, 6);
    checks.due("clear() behind a rule with too many states", sixty.clear(), 13);
  }

  private static void sameAsNew() {
    checks.says("There are no rules, and the text is empty.");
    for (World world : World.all()) {
      Questions.same(checks, "clear() of " + world.name(), x -> {
        world.make(x);
        Questions.askSome(x);
        x.clear();
      }, x -> { });
    }
  }

  /** A state of the grammar that was holds items that no state of the next one holds together. */
  private static void otherStates() {
    checks.says("There are no rules");
    Subject x = checks.grammar(new int[][] {{1, 9, 8}, {1, 9, 7}, {0, 6, 7, 8, 1}});
    checks.due("states()", x.states(), 9);
    x.clear();
    checks.rule(x, 0, 0, 6, 9);
    checks.rule(x, 1, 0, 7, 9);
    checks.due("states() of the next grammar", x.states(), 6);
    checks.moves(x, new int[][] {{0, 0, 1}, {0, 6, 2}, {0, 7, 3}, {2, 9, 4}, {3, 9, 5}});
  }

  /** Nothing of the grammar that was shows in the next one. */
  private static void anotherGrammar() {
    checks.says("There are no rules, and the text is empty.");
    for (World world : World.all()) {
      for (World next : World.all()) {
        Questions.same(checks, next.name() + " behind " + world.name(), x -> {
          world.make(x);
          Questions.askSome(x);
          x.clear();
          next.make(x);
        }, next::make);
      }
    }
  }
}
