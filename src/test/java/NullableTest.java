/** Promise 6: nullable. */
public final class NullableTest {
  private static final Checks checks = new Checks("NullableTest");

  public static void main(String[] args) {
    eachMaker();
    byOthers();
    notByAWord();
    notByGoingRound();
    whateverTheText();
    noSuchMaker();
    checks.end();
  }

  private static void nullables(Subject x, int... makers) {
    for (int m = -1; m <= 10; m++) {
      boolean want = false;
      for (int maker : makers) {
        want |= maker == m;
      }
      checks.due("nullable(" + m + ")", x.nullable(m), want);
    }
  }

  private static void eachMaker() {
    checks.says("A maker is NULLABLE when it stands for an empty part.");
    nullables(new Subject());
    for (int m = 0; m < 6; m++) {
      nullables(checks.grammar(new int[][] {{m}}), m);
    }
    nullables(checks.grammar(new int[][] {{0}, {1}, {2}, {3}, {4}, {5}}), 0, 1, 2, 3, 4, 5);
  }

  /** In a chain whose rules come in either order, and with right sides of every length. */
  private static void byOthers() {
    checks.says("A maker is NULLABLE when it stands for an empty part.");
    int[][] chain = {{0, 1}, {1, 2, 2}, {2, 3, 3, 3}, {3, 4, 4, 4, 4}, {4, 5}};
    Subject x = checks.grammar(chain);
    nullables(x);
    checks.rule(x, 5, 5);
    nullables(x, 0, 1, 2, 3, 4, 5);
    nullables(checks.grammar(new int[][] {{5}, {4, 5}, {3, 4, 4, 4, 4}, {2, 3, 3, 3}, {1, 2, 2}, {0, 1}}),
        0, 1, 2, 3, 4, 5);
  }

  private static void notByAWord() {
    checks.says("for each word there its part must be just this word");
    for (int at = 0; at < 4; at++) {
      for (int w = 6; w < 10; w++) {
        int[] rule = {0, 1, 1, 1, 1};
        rule[at + 1] = w;
        nullables(checks.grammar(new int[][] {rule, {1}, {2, w}}), 1);
        rule[at + 1] = 2;
        nullables(checks.grammar(new int[][] {rule, {1}, {2, w}}), 1);
      }
    }
  }

  private static void notByGoingRound() {
    checks.says("(Trees are finite; ..)");
    nullables(checks.grammar(new int[][] {{0, 0}, {1, 2}, {2, 1}, {3, 3, 3, 3, 3}, {4, 5, 5}, {5, 4, 4}}));
    nullables(checks.grammar(new int[][] {{0, 0}, {1, 2}, {2, 1}, {2, 3}, {3}}), 1, 2, 3);
  }

  private static void whateverTheText() {
    checks.says("Whether a maker is nullable");
    Subject x = checks.grammar(new int[][] {{0, 6, 1}, {1, 2}, {2}, {3, 7}});
    for (int length = 0; length <= 10; length++) {
      nullables(x, 1, 2);
      checks.words(x, 6 + length % 2);
      if (length == 9) {
        break;
      }
    }
    nullables(x, 1, 2);
    x.erase();
    nullables(x, 1, 2);
    checks.rule(x, 4, 0);
    nullables(x, 0, 1, 2);
    x.clear();
    nullables(x);
  }

  private static void noSuchMaker() {
    checks.says("false when there is no such maker");
    Subject x = checks.grammar(new int[][] {{0}, {1}, {2}, {3}, {4}, {5}}, 6, 7, 8, 9);
    checks.due("nullable(0)", x.nullable(0), true);
    checks.due("nullable(5)", x.nullable(5), true);
    for (int none : new int[] {-2, -1, 6, 7, 8, 9, 10, 11, 64, Integer.MIN_VALUE, Integer.MAX_VALUE}) {
      checks.due("nullable(" + none + ")", x.nullable(none), false);
    }
  }
}
