/** Promise 4: erase. */
public final class EraseTest {
  private static final Checks checks = new Checks("EraseTest");

  public static void main(String[] args) {
    emptyThen();
    howLong();
    rulesStay();
    sameAsNeverWritten();
    anotherText();
    checks.end();
  }

  private static void emptyThen() {
    checks.says("The text is empty then.");
    for (int length = 0; length <= 10; length++) {
      Subject x = checks.grammar(Grammars.PAIRS, Checks.times(6, length));
      checks.due("accepted() of " + length, x.accepted(), length > 0);
      x.erase();
      checks.due("accepted()", x.accepted(), false);
      checks.due("trees()", x.trees(), 0);
      checks.due("length(0)", x.length(0), Subject.ELEMENT);
      checks.due("frontier(0)", x.frontier(0), 1);
      checks.due("frontier(1)", x.frontier(1), -1);
      checks.due("used(0, 0, 1)", x.used(0, 0, 1), false);
      checks.words(x, Checks.times(6, 10));
      checks.due("an eleventh word", x.word(6), false);
      checks.due("trees() of ten", x.trees(), 4862);
    }
  }

  private static void howLong() {
    checks.says("Answers how long it was.");
    for (int length = 0; length <= 10; length++) {
      Subject x = checks.grammar(new int[][] {}, Checks.times(7, length));
      checks.due("word(5)", x.word(5), false);
      checks.due("erase() of " + length, x.erase(), length);
      checks.due("erase() again", x.erase(), 0);
    }
    Subject x = checks.grammar(new int[][] {}, Checks.times(7, 10));
    checks.due("an eleventh word", x.word(7), false);
    checks.due("erase() behind a word that was not taken", x.erase(), 10);
  }

  private static void rulesStay() {
    checks.says("The text is empty then.");
    Subject x = checks.grammar(Grammars.BRACKETS, 7, 6);
    x.erase();
    checks.due("states()", x.states(), 5);
    checks.due("nullable(0)", x.nullable(0), true);
    checks.due("accepted() of nothing", x.accepted(), true);
    checks.words(x, 6, 7);
    checks.row(x, 0, 0, 1);
    checks.rule(x, -1, 0, 6, 0, 7);
    checks.due("clear()", x.clear(), 2);
  }

  private static void sameAsNeverWritten() {
    checks.says("The text is empty then.");
    for (World world : World.all()) {
      Questions.same(checks, "erase() of " + world.name(), x -> {
        world.make(x);
        Questions.askSome(x);
        x.erase();
      }, world::makeRules);
    }
  }

  /** Nothing of the text that was shows in the next one. */
  private static void anotherText() {
    checks.says("The text is empty then.");
    for (World world : World.all()) {
      for (int[] next : new int[][] {{6}, {7, 6}, {6, 6, 7, 7}, Checks.times(6, 5), Checks.times(6, 10)}) {
        World other = new World("", world.rules(), next);
        Questions.same(checks, "another text behind " + world.name(), x -> {
          world.make(x);
          Questions.askSome(x);
          x.erase();
          other.makeText(x);
        }, other::make);
      }
    }
  }
}
