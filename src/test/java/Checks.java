/** What the tests share: a call's answer against the one that is due, and the end of a test. */
final class Checks {
  static final int STATE = 1001;
  static final int ELEMENT = 1002;
  static final int INDEX = 1003;

  private int wrong;
  private int done;

  void due(String call, int got, int want) {
    done++;
    if (got != want) {
      wrong++;
      System.out.println(call + " answered " + got + ", due is " + want);
    }
  }

  void due(String call, boolean got, boolean want) {
    due(call, got ? 1 : 0, want ? 1 : 0);
  }

  /** The answer of length(k), or the number of the exception it throws. */
  static int length(NulledForest x, int k) {
    try {
      return x.length(k);
    } catch (IllegalStateException e) {
      return STATE;
    } catch (java.util.NoSuchElementException e) {
      return ELEMENT;
    }
  }

  /** The answer of made(k, i), or the number of the exception it throws. */
  static int made(NulledForest x, int k, int i) {
    try {
      return x.made(k, i);
    } catch (IllegalStateException e) {
      return STATE;
    } catch (java.util.NoSuchElementException e) {
      return ELEMENT;
    } catch (IndexOutOfBoundsException e) {
      return INDEX;
    }
  }

  /** Adds a rule whose right side is written out; it must be taken. */
  void rule(NulledForest x, int want, int left, int... right) {
    int[] r = {-1, -1, -1, -1};
    System.arraycopy(right, 0, r, 0, right.length);
    due("rule(" + left + ", " + java.util.Arrays.toString(right) + ")",
        x.rule(left, r[0], r[1], r[2], r[3]), want);
  }

  void words(NulledForest x, int... words) {
    for (int w : words) {
      due("word(" + w + ")", x.word(w), true);
    }
  }

  /** A tree's whole row of rules, with what is behind its end. */
  void row(NulledForest x, int k, int... want) {
    due("length(" + k + ")", length(x, k), want.length);
    for (int i = 0; i < want.length; i++) {
      due("made(" + k + ", " + i + ")", made(x, k, i), want[i]);
    }
    due("made(" + k + ", " + want.length + ")", made(x, k, want.length), INDEX);
  }

  void end(String name) {
    System.out.println(name + ": " + done + " answers, " + wrong + " not as due");
    if (wrong != 0) {
      System.exit(1);
    }
  }
}
