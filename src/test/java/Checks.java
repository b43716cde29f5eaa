import java.util.Arrays;

/** What the tests share: answers against those that are due, with the document's sentence, and the end of a test. */
final class Checks {
  private final String test;
  private String sentence = "";
  private int wrong;
  private int done;

  Checks(String test) {
    this.test = test;
  }

  /** The document's words that the next answers are held against. */
  void says(String words) {
    sentence = words;
  }

  void due(String call, int got, int want) {
    done++;
    if (got != want) {
      wrong++;
      System.out.println(test + ": \"" + sentence + "\": " + call + " answered " + got + ", due is " + want);
    }
  }

  void due(String call, boolean got, boolean want) {
    due(call, got ? 1 : 0, want ? 1 : 0);
  }

  /** Adds a rule whose right side is written out. */
  void rule(Subject x, int want, int left, int... right) {
    int[] r = {-1, -1, -1, -1};
    System.arraycopy(right, 0, r, 0, right.length);
    due("rule(" + left + ", " + Arrays.toString(right) + ")", x.rule(left, r[0], r[1], r[2], r[3]), want);
  }

  void words(Subject x, int... words) {
    for (int w : words) {
      due("word(" + w + ")", x.word(w), true);
    }
  }

  /** An object with these rules, each as its left side and its right side, and this text. */
  Subject grammar(int[][] rules, int... words) {
    Subject x = new Subject();
    for (int n = 0; n < rules.length; n++) {
      rule(x, n, rules[n][0], Arrays.copyOfRange(rules[n], 1, rules[n].length));
    }
    words(x, words);
    return x;
  }

  /** A text of one word again and again. */
  static int[] times(int word, int count) {
    int[] words = new int[count];
    Arrays.fill(words, word);
    return words;
  }

  /** A tree's whole row of rules, and that it has no rule before its first and none behind its last. */
  void row(Subject x, int k, int... want) {
    due("length(" + k + ")", x.length(k), want.length);
    due("made(" + k + ", -1)", x.made(k, -1), Subject.INDEX);
    for (int i = 0; i < want.length; i++) {
      due("made(" + k + ", " + i + ")", x.made(k, i), want[i]);
    }
    due("made(" + k + ", " + want.length + ")", x.made(k, want.length), Subject.INDEX);
  }

  /** All that is used, each as maker, i, j and how many families it has; all else is not used. */
  void uses(Subject x, int[][] parts) {
    for (int m = -1; m <= 6; m++) {
      for (int i = -1; i <= 11; i++) {
        for (int j = -1; j <= 11; j++) {
          int families = 0;
          for (int[] part : parts) {
            families = part[0] == m && part[1] == i && part[2] == j ? part[3] : families;
          }
          String name = "(" + m + ", " + i + ", " + j + ")";
          due("used" + name, x.used(m, i, j), families > 0);
          due("families" + name, x.families(m, i, j), families);
        }
      }
    }
  }

  /** Every move of the automaton, each as state, symbol and goal; all others lead nowhere. */
  void moves(Subject x, int[][] moves) {
    for (int s = -1; s <= 60; s++) {
      for (int a = -1; a <= 10; a++) {
        int want = -1;
        for (int[] move : moves) {
          want = move[0] == s && move[1] == a ? move[2] : want;
        }
        due("leads(" + s + ", " + a + ")", x.leads(s, a), want);
      }
    }
  }

  /** How many items each state reduces, and that there are no other states. */
  void reduces(Subject x, int... want) {
    for (int s = -1; s <= 60; s++) {
      due("reduces(" + s + ")", x.reduces(s), s >= 0 && s < want.length ? want[s] : -1);
    }
  }

  /** The states in the frontier at a place; no other stands there. */
  void frontier(Subject x, int place, int... states) {
    due("frontier(" + place + ")", x.frontier(place), states.length);
    for (int s = -1; s <= 60; s++) {
      boolean want = false;
      for (int state : states) {
        want |= state == s;
      }
      due("stands(" + place + ", " + s + ")", x.stands(place, s), want);
    }
  }

  void end() {
    System.out.println(test + ": " + done + " answers, " + wrong + " not as due");
    if (wrong != 0) {
      System.exit(1);
    }
  }
}
