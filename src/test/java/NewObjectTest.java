/** Promise 1: a new object. */
public final class NewObjectTest {
  private static final Checks checks = new Checks("NewObjectTest");

  public static void main(String[] args) {
    noRules();
    noText();
    nothingShared();
    checks.end();
  }

  private static void noRules() {
    checks.says("No rules");
    checks.due("clear()", new Subject().clear(), 0);
    checks.due("states()", new Subject().states(), 2);
    Subject x = new Subject();
    for (int m = -1; m <= 6; m++) {
      checks.due("nullable(" + m + ")", x.nullable(m), false);
    }
    checks.moves(x, new int[][] {{0, 0, 1}});
    checks.reduces(x, 0, 0);
    checks.rule(new Subject(), 0, 0, 6);
    checks.grammar(Grammars.FOURTEEN);
  }

  private static void noText() {
    checks.says("no text");
    checks.due("erase()", new Subject().erase(), 0);
    Subject x = new Subject();
    checks.frontier(x, 0, 0);
    checks.due("frontier(1)", x.frontier(1), -1);
    checks.due("accepted()", x.accepted(), false);
    checks.uses(x, new int[][] {});
    checks.due("trees()", x.trees(), 0);
    checks.due("length(0)", x.length(0), Subject.ELEMENT);
    checks.due("made(0, 0)", x.made(0, 0), Subject.ELEMENT);
    checks.words(new Subject(), Checks.times(9, 10));
    checks.due("accepted() of nothing", checks.grammar(new int[][] {{0}}).accepted(), true);
  }

  private static void nothingShared() {
    checks.says("No rules, no text.");
    NulledForest x = new NulledForest();
    NulledForest before = new NulledForest();
    x.rule(0, 6, -1, -1, -1);
    x.word(6);
    NulledForest behind = new NulledForest();
    for (NulledForest other : new NulledForest[] {before, behind}) {
      checks.due("another object's accepted()", other.accepted(), false);
      checks.due("another object's erase()", other.erase(), 0);
      checks.due("another object's clear()", other.clear(), 0);
    }
    checks.due("accepted()", x.accepted(), true);
  }
}
