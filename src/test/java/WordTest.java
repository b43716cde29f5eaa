/** Promise 3: word. */
public final class WordTest {
  private static final int[] NO_WORDS = {-1, 0, 4, 5, 10, 11, Integer.MIN_VALUE, Integer.MAX_VALUE};
  private static final Checks checks = new Checks("WordTest");

  public static void main(String[] args) {
    behindTheText();
    eachWord();
    noWord();
    tenWords();
    askedBetween();
    checks.end();
  }

  /** A grammar that makes one text only, of ten words: no other word at any place will do. */
  private static void behindTheText() {
    checks.says("Puts a word (6 .. 9) behind the text. Answers true");
    int[] text = {6, 7, 8, 9, 9, 8, 7, 6, 7, 9};
    int[][] rules = {{0, 1, 2, 3}, {1, 6, 7, 8, 9}, {2, 9, 8, 7, 6}, {3, 7, 9}};
    Subject x = checks.grammar(rules);
    for (int w : text) {
      checks.due("accepted() too early", x.accepted(), false);
      checks.words(x, w);
    }
    checks.due("accepted()", x.accepted(), true);
    for (int at = 0; at < 10; at++) {
      int[] other = text.clone();
      other[at] = text[at] == 9 ? 6 : text[at] + 1;
      checks.due("accepted() with another word at " + at, checks.grammar(rules, other).accepted(), false);
    }
  }

  private static void eachWord() {
    checks.says("Puts a word (6 .. 9) behind the text. Answers true");
    for (int w = 6; w < 10; w++) {
      for (int made = 6; made < 10; made++) {
        Subject x = checks.grammar(new int[][] {{0, made}});
        checks.words(x, w);
        checks.due("accepted() of " + w + " where " + made + " is made", x.accepted(), w == made);
        checks.due("erase()", x.erase(), 1);
      }
    }
  }

  private static void noWord() {
    checks.says("false when it is no word");
    Subject x = checks.grammar(new int[][] {{0, 6, 9}});
    for (int none : NO_WORDS) {
      checks.due("word(" + none + ")", x.word(none), false);
    }
    checks.due("frontier(1)", x.frontier(1), -1);
    checks.words(x, 6);
    for (int none : NO_WORDS) {
      checks.due("word(" + none + ") behind a word", x.word(none), false);
    }
    checks.words(x, 9);
    checks.due("accepted()", x.accepted(), true);
    checks.due("erase()", x.erase(), 2);
  }

  /** Asked about before, the text grows all the same. */
  private static void askedBetween() {
    checks.says("Puts a word (6 .. 9) behind the text.");
    Subject x = checks.grammar(Grammars.PAIRS);
    int[] trees = {0, 1, 1, 2, 5, 14, 42, 132, 429, 1430, 4862};
    for (int length = 0; length <= 10; length++) {
      checks.due("accepted() of " + length, x.accepted(), length > 0);
      checks.due("trees() of " + length, x.trees(), trees[length]);
      checks.due("frontier(" + length + ")", x.frontier(length), length == 0 ? 1 : length == 1 ? 2 : 3);
      checks.due("used(0, 0, " + length + ")", x.used(0, 0, length), length > 0);
      checks.due("length(0) of " + length, x.length(0), length == 0 ? Subject.ELEMENT : 2 * length - 1);
      checks.due("word(6) behind " + length, x.word(6), length < 10);
    }
  }

  private static void tenWords() {
    checks.says("false when .. there are 10");
    Subject x = new Subject();
    for (int n = 1; n <= 10; n++) {
      checks.due("word " + n, x.word(6 + n % 4), true);
      checks.due("whether place " + n + " is there", x.frontier(n) >= 0, true);
      checks.due("frontier(" + (n + 1) + ")", x.frontier(n + 1), -1);
    }
    for (int w = -1; w <= 10; w++) {
      checks.due("word(" + w + ") behind ten", x.word(w), false);
    }
    checks.due("frontier(11)", x.frontier(11), -1);
    checks.due("erase()", x.erase(), 10);
    checks.words(x, Checks.times(6, 10));
    checks.due("an eleventh word again", x.word(6), false);
    checks.due("clear()", x.clear(), 0);
    checks.words(x, Checks.times(9, 10));
    checks.due("an eleventh word once more", x.word(9), false);
  }
}
