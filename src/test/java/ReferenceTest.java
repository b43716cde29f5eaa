import java.util.List;

/** Many runs of calls on grammars of many kinds, each answer held against the plain Reference. */
public final class ReferenceTest {
  private static final int RUNS = 400;

  /** How the rules of a grammar are drawn: from how many makers and words, and in which way. */
  private record Kind(int makers, int words, int empties, int way) {
    static final int LOOSE = 0;
    static final int LAYERED = 1;
    static final int LONG = 2;
    static final int WAYS = 3;
  }

  private static final Checks checks = new Checks();
  private static final int[] coverage = new int[7];
  private static long seed = 20261115L;
  private static NulledForest x;
  private static Reference r;

  private static int below(int bound) {
    seed = seed * 6364136223846793005L + 1442695040888963407L;
    return (int) ((seed >>> 33) % bound);
  }

  public static void main(String[] args) {
    for (int run = 0; run < RUNS; run++) {
      x = new NulledForest();
      r = new Reference();
      play("run " + run + " ", new Kind(1 + below(6), 1 + below(4), below(4), run % Kind.WAYS));
    }
    System.out.println("accepted, endless, capped, several trees, refused for states, 60 states, rows: "
        + java.util.Arrays.toString(coverage));
    for (int c = 0; c < coverage.length; c++) {
      checks.due("whether kind " + c + " came", coverage[c] > 0, true);
    }
    checks.end("ReferenceTest");
  }

  private static void play(String run, Kind kind) {
    int rules = kind.way == Kind.LONG ? 16 : 1 + below(16);
    for (int n = 0; n < rules; n++) {
      addRule(run, kind);
    }
    for (int texts = 0; texts < 3; texts++) {
      askAll(run);
      int length = below(12);
      for (int n = 0; n < length; n++) {
        int w = below(40) == 0 ? below(12) : 6 + below(kind.words);
        checks.due(run + "word(" + w + ")", x.word(w), r.word(w));
      }
      askAll(run);
      addRule(run, kind);
      askAll(run);
      if (below(12) == 0) {
        checks.due(run + "clear()", x.clear(), r.clear());
      } else {
        checks.due(run + "erase()", x.erase(), r.erase());
      }
    }
  }

  private static int size(Kind kind) {
    if (kind.way == Kind.LONG) {
      return 4;
    }
    int size = below(5 + kind.empties);
    return size > 4 ? 0 : size;
  }

  private static int symbol(Kind kind, int left) {
    // In a layered grammar most makers stand below their left side, so that few go round.
    boolean down = kind.way == Kind.LAYERED && left >= 0 && below(40) > 0;
    if (down && left >= kind.makers - 1 || below(down ? 4 : 2) == 0) {
      return 6 + below(kind.words);
    }
    return down ? left + 1 + below(kind.makers - 1 - left) : below(kind.makers);
  }

  private static void addRule(String run, Kind kind) {
    int left = below(60) == 0 ? below(12) - 3 : below(kind.makers);
    int[] side = {-1, -1, -1, -1};
    int size = size(kind);
    for (int t = 0; t < size; t++) {
      side[t] = symbol(kind, left);
    }
    if (below(50) == 0) {
      side[below(4)] = below(20) - 6;
    }
    int want = r.rule(left, side[0], side[1], side[2], side[3]);
    checks.due(run + "rule(" + left + ", " + java.util.Arrays.toString(side) + ")",
        x.rule(left, side[0], side[1], side[2], side[3]), want);
    coverage[4] += r.refusedForStates ? 1 : 0;
    coverage[5] += r.states() == 60 ? 1 : 0;
  }

  private static void askAll(String run) {
    for (int m = -1; m <= 6; m++) {
      checks.due(run + "nullable(" + m + ")", x.nullable(m), r.nullable(m));
    }
    checks.due(run + "states()", x.states(), r.states());
    for (int s = -1; s <= r.states(); s++) {
      for (int a = -1; a <= 10; a++) {
        checks.due(run + "leads(" + s + ", " + a + ")", x.leads(s, a), r.leads(s, a));
      }
      checks.due(run + "reduces(" + s + ")", x.reduces(s), r.reduces(s));
    }
    askText(run);
    askTrees(run);
  }

  private static void askText(String run) {
    checks.due(run + "accepted()", x.accepted(), r.accepted());
    for (int i = -1; i <= 11; i++) {
      checks.due(run + "frontier(" + i + ")", x.frontier(i), r.frontier(i));
      for (int s = -1; s <= 61; s++) {
        checks.due(run + "stands(" + i + ", " + s + ")", x.stands(i, s), r.stands(i, s));
      }
      for (int j = -1; j <= 11; j++) {
        for (int m = -1; m <= 6; m++) {
          String part = "(" + m + ", " + i + ", " + j + ")";
          checks.due(run + "used" + part, x.used(m, i, j), r.used(m, i, j));
          checks.due(run + "families" + part, x.families(m, i, j), r.families(m, i, j));
        }
      }
    }
  }

  private static void askTrees(String run) {
    int trees = r.trees();
    coverage[0] += r.accepted() ? 1 : 0;
    coverage[1] += trees == -1 ? 1 : 0;
    coverage[2] += trees == 1000000000 ? 1 : 0;
    coverage[3] += trees > 1 ? 1 : 0;
    checks.due(run + "trees()", x.trees(), trees);
    if (trees >= 0 && trees <= 200) {
      List<List<Integer>> rows = r.everyRow();
      checks.due(run + "trees() listed", rows.size(), trees);
      for (int k = 0; k < trees; k++) {
        checks.due(run + "the reference's row " + k, r.row(k).equals(rows.get(k)), true);
      }
    }
    int[] asked = {-1, 0, 1, 2, trees - 2, trees - 1, trees, below(1000000000), below(Math.max(1, trees)),
        below(Math.max(1, trees)), below(1000), 999999999, 1000000000, Integer.MAX_VALUE, Integer.MIN_VALUE};
    for (int k : asked) {
      askRow(run, k);
    }
  }

  private static void askRow(String run, int k) {
    List<Integer> row = r.endless() ? null : r.row(k);
    int none = r.endless() ? Checks.STATE : Checks.ELEMENT;
    checks.due(run + "length(" + k + ")", Checks.length(x, k), row == null ? none : row.size());
    if (row == null) {
      checks.due(run + "made(" + k + ", 0)", Checks.made(x, k, 0), none);
      checks.due(run + "made(" + k + ", -1)", Checks.made(x, k, -1), none);
      return;
    }
    coverage[6]++;
    // Of a very long row not every rule is asked for, but the first and the last ones always.
    int step = 1 + row.size() / 60;
    for (int i = 0; i < row.size(); i += i < 10 || i > row.size() - 10 ? 1 : step) {
      checks.due(run + "made(" + k + ", " + i + ")", Checks.made(x, k, i), row.get(i));
    }
    for (int i : new int[] {-1, row.size(), row.size() + 1, Integer.MAX_VALUE, Integer.MIN_VALUE}) {
      checks.due(run + "made(" + k + ", " + i + ")", Checks.made(x, k, i), Checks.INDEX);
    }
  }
}
