/** Promises 3, 4 and 12: word, erase, accepted. */
public final class TextTest {
  private static final Checks checks = new Checks();

  public static void main(String[] args) {
    words();
    erasing();
    accepting();
    roundGrammars();
    checks.end("TextTest");
  }

  private static void words() {
    NulledForest x = new NulledForest();
    for (int none : new int[] {-1, 0, 5, 10, Integer.MIN_VALUE, Integer.MAX_VALUE}) {
      checks.due("word(" + none + ")", x.word(none), false);
    }
    checks.due("frontier(1) of no text", x.frontier(1), -1);
    checks.words(x, 6, 7, 8, 9, 6, 7, 8, 9, 6, 7);
    checks.due("an eleventh word", x.word(6), false);
    checks.due("frontier(10)", x.frontier(10), 0);
    checks.due("frontier(11)", x.frontier(11), -1);
    checks.due("erase()", x.erase(), 10);
  }

  private static void erasing() {
    NulledForest x = new NulledForest();
    checks.rule(x, 0, 0, 6);
    checks.words(x, 7, 6);
    checks.due("erase()", x.erase(), 2);
    checks.due("erase()", x.erase(), 0);
    checks.words(x, 6);
    checks.due("accepted()", x.accepted(), true);
    checks.due("clear() keeps count of the rules", x.clear(), 1);
    checks.due("erase() behind clear()", x.erase(), 0);
  }

  private static void accepting() {
    NulledForest x = new NulledForest();
    checks.rule(x, 0, 0, 6, 0, 7);
    checks.rule(x, 1, 0, 8);
    int[] text = {6, 6, 8, 7, 7};
    for (int w : text) {
      checks.due("accepted() too early", x.accepted(), false);
      checks.words(x, w);
    }
    checks.due("accepted()", x.accepted(), true);
    checks.due("a word that is none", x.word(3), false);
    checks.due("accepted() still", x.accepted(), true);
    checks.words(x, 7);
    checks.due("accepted() with a word too many", x.accepted(), false);
    x.erase();
    checks.due("accepted() of the empty text", x.accepted(), false);
    checks.rule(x, 2, 0, 1, 1);
    checks.rule(x, 3, 1);
    checks.due("accepted() of the empty text, maker 0 being nullable", x.accepted(), true);
    x.word(6);
    checks.due("accepted() of 6", x.accepted(), false);
    x.word(7);
    checks.due("accepted() of 6 7, with nothing between", x.accepted(), true);
  }

  private static void roundGrammars() {
    NulledForest x = new NulledForest();
    checks.rule(x, 0, 0, 0);
    checks.rule(x, 1, 0, 1);
    checks.rule(x, 2, 1, 0);
    checks.words(x, 6);
    checks.due("accepted() without a finite tree", x.accepted(), false);
    checks.due("trees()", x.trees(), 0);
    checks.rule(x, 3, 1, 6);
    checks.due("accepted()", x.accepted(), true);
    x.erase();
    checks.due("accepted() of the empty text", x.accepted(), false);
  }
}
