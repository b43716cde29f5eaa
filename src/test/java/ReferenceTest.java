import java.util.List;

/** Many runs of calls on grammars of many kinds, each answer held against the plain Reference. */
public final class ReferenceTest {
  private static final int RUNS = 400;
  private static final int LIVE_RUNS = 3000;
  private static final int RICH_RUNS = 1000;

  /** How the rules of a grammar are drawn: from how many makers and words, and in which way. */
  private record Kind(int makers, int words, int empties, int way) {
    static final int LOOSE = 0;
    static final int LAYERED = 1;
    static final int LONG = 2;
    static final int WAYS = 3;
  }

  private static final Checks checks = new Checks("ReferenceTest");
  private static final int[] coverage = new int[7];
  private static long seed = 20261115L;
  private static Subject x;
  private static Reference r;

  private static int below(int bound) {
    seed = seed * 6364136223846793005L + 1442695040888963407L;
    return (int) ((seed >>> 33) % bound);
  }

  public static void main(String[] args) {
    int times = args.length == 0 ? 1 : Integer.parseInt(args[0]);
    seed += args.length < 2 ? 0 : Long.parseLong(args[1]);
    for (int run = 0; run < RUNS * times; run++) {
      begin();
      play("run " + run + " ", kind(run));
    }
    for (int run = 0; run < LIVE_RUNS * times; run++) {
      begin();
      live("live run " + run + " ", kind(run));
    }
    for (int run = 0; run < RICH_RUNS * times; run++) {
      begin();
      rich("rich run " + run + " ");
    }
    System.out.println("accepted, endless, capped, several trees, refused for states, 60 states, rows: "
        + java.util.Arrays.toString(coverage));
    for (int c = 0; c < coverage.length; c++) {
      checks.due("whether kind " + c + " came", coverage[c] > 0, true);
    }
    checks.end();
  }

  private static void begin() {
    x = new Subject();
    r = new Reference();
  }

  private static Kind kind(int run) {
    return new Kind(1 + below(6), 1 + below(4), below(4), run % Kind.WAYS);
  }

  /** Few changes, and behind each of them all that can be asked. */
  private static void play(String run, Kind kind) {
    int rules = kind.way == Kind.LONG ? 16 : 1 + below(16);
    for (int n = 0; n < rules; n++) {
      addRule(run, kind);
    }
    for (int texts = 0; texts < 3; texts++) {
      askAll(run);
      int length = below(12);
      for (int n = 0; n < length; n++) {
        addWord(run, kind);
      }
      askAll(run);
      addRule(run, kind);
      askAll(run);
      if (below(12) == 0) {
        checks.due(run + "clear()", x.clear(), r.clear());
      } else {
        checks.due(run + "erase()", x.erase(), r.erase());
      }
    }
  }

  /** All 512 calls of one object, changes and questions mixed, so that nothing outdated is ever answered. */
  private static void live(String run, Kind kind) {
    int rules = kind.way == Kind.LONG ? 14 : 1 + below(12);
    for (int call = 0; call < Subject.MOST_CALLS; call++) {
      int drawn = below(100);
      if (call < rules || drawn < 4) {
        addRule(run, kind);
      } else if (drawn < 12) {
        addWord(run, kind);
      } else if (drawn < 13) {
        checks.due(run + "erase()", x.erase(), r.erase());
      } else if (drawn == 13 && below(8) == 0) {
        checks.due(run + "clear()", x.clear(), r.clear());
      } else {
        askOne(run);
      }
    }
  }

  /** A word stands before each maker that does not lie below its left side: many trees, and seldom endless. */
  private static void rich(String run) {
    for (int n = 0; n < 14; n++) {
      int left = n < 6 ? n : below(6);
      int[] side = {-1, -1, -1, -1};
      int size = n >= 6 && below(4) == 0 ? 0 : 1 + below(4);
      boolean word = false;
      for (int t = 0; t < size; t++) {
        boolean next = below(4) == 0 || left == 5 && !word;
        word |= next;
        side[t] = next || left == 5 ? 6 : word && below(3) == 0 ? below(6) : left + 1 + below(5 - left);
      }
      addRule(run, left, side);
    }
    for (int length = 7 + below(4); length > 0; length--) {
      checks.due(run + "word(6)", x.word(6), r.word(6));
    }
    askTrees(run);
  }

  private static int size(Kind kind) {
    if (kind.way == Kind.LONG) {
      return 4;
    }
    int size = below(5 + kind.empties);
    return size > 4 ? 0 : size;
  }

  private static int symbol(Kind kind, int left) {
    // In a layered grammar most makers stand below their left side, so that few go round.
    boolean down = kind.way == Kind.LAYERED && left >= 0 && below(40) > 0;
    if (down && left >= kind.makers - 1 || below(down ? 4 : 2) == 0) {
      return 6 + below(kind.words);
    }
    return down ? left + 1 + below(kind.makers - 1 - left) : below(kind.makers);
  }

  private static void addRule(String run, Kind kind) {
    int left = below(60) == 0 ? below(12) - 3 : below(kind.makers);
    int[] side = {-1, -1, -1, -1};
    int size = size(kind);
    for (int t = 0; t < size; t++) {
      side[t] = symbol(kind, left);
    }
    if (below(50) == 0) {
      side[below(4)] = below(20) - 6;
    }
    addRule(run, left, side);
  }

  private static void addRule(String run, int left, int[] side) {
    int want = r.rule(left, side[0], side[1], side[2], side[3]);
    checks.due(run + "rule(" + left + ", " + java.util.Arrays.toString(side) + ")",
        x.rule(left, side[0], side[1], side[2], side[3]), want);
    coverage[4] += r.refusedForStates ? 1 : 0;
    coverage[5] += r.states() == 60 ? 1 : 0;
  }

  private static void addWord(String run, Kind kind) {
    int w = below(40) == 0 ? below(14) - 2 : 6 + below(kind.words);
    checks.due(run + "word(" + w + ")", x.word(w), r.word(w));
  }

  private static void askAll(String run) {
    for (int m = -1; m <= 6; m++) {
      checks.due(run + "nullable(" + m + ")", x.nullable(m), r.nullable(m));
    }
    checks.due(run + "states()", x.states(), r.states());
    for (int s = -1; s <= r.states(); s++) {
      for (int a = -1; a <= 10; a++) {
        checks.due(run + "leads(" + s + ", " + a + ")", x.leads(s, a), r.leads(s, a));
      }
      checks.due(run + "reduces(" + s + ")", x.reduces(s), r.reduces(s));
    }
    askText(run);
    askTrees(run);
  }

  private static void askText(String run) {
    checks.due(run + "accepted()", x.accepted(), r.accepted());
    for (int i = -1; i <= 11; i++) {
      checks.due(run + "frontier(" + i + ")", x.frontier(i), r.frontier(i));
      for (int s = -1; s <= 61; s++) {
        checks.due(run + "stands(" + i + ", " + s + ")", x.stands(i, s), r.stands(i, s));
      }
      for (int j = -1; j <= 11; j++) {
        for (int m = -1; m <= 6; m++) {
          askPart(run, m, i, j);
        }
      }
    }
  }

  private static void askPart(String run, int m, int i, int j) {
    String part = "(" + m + ", " + i + ", " + j + ")";
    checks.due(run + "used" + part, x.used(m, i, j), r.used(m, i, j));
    checks.due(run + "families" + part, x.families(m, i, j), r.families(m, i, j));
  }

  private static void askTrees(String run) {
    int trees = r.trees();
    coverage[0] += r.accepted() ? 1 : 0;
    coverage[1] += trees == -1 ? 1 : 0;
    coverage[2] += trees == 1000000000 ? 1 : 0;
    coverage[3] += trees > 1 ? 1 : 0;
    checks.due(run + "trees()", x.trees(), trees);
    if (trees >= 0 && trees <= 200) {
      List<List<Integer>> rows = r.everyRow();
      checks.due(run + "trees() listed", rows.size(), trees);
      for (int k = 0; k < trees; k++) {
        checks.due(run + "the reference's row " + k, r.row(k).equals(rows.get(k)), true);
      }
    }
    int[] asked = {-1, 0, 1, 2, trees - 2, trees - 1, trees, below(1000000000), below(Math.max(1, trees)),
        below(Math.max(1, trees)), below(1000), 999999999, 1000000000, Integer.MAX_VALUE, Integer.MIN_VALUE};
    for (int k : asked) {
      askRow(run, k);
    }
  }

  private static void askRow(String run, int k) {
    List<Integer> row = r.endless() ? null : r.row(k);
    int none = r.endless() ? Subject.STATE : Subject.ELEMENT;
    checks.due(run + "length(" + k + ")", x.length(k), row == null ? none : row.size());
    if (row == null) {
      checks.due(run + "made(" + k + ", 0)", x.made(k, 0), none);
      checks.due(run + "made(" + k + ", -1)", x.made(k, -1), none);
      return;
    }
    coverage[6]++;
    // Of a very long row not every rule is asked for, but the first and the last ones always.
    int step = 1 + row.size() / 60;
    for (int i = 0; i < row.size(); i += i < 10 || i > row.size() - 10 ? 1 : step) {
      checks.due(run + "made(" + k + ", " + i + ")", x.made(k, i), row.get(i));
    }
    for (int i : new int[] {-1, row.size(), row.size() + 1, Integer.MAX_VALUE, Integer.MIN_VALUE}) {
      checks.due(run + "made(" + k + ", " + i + ")", x.made(k, i), Subject.INDEX);
    }
  }

  /** One question, mostly about what there is and now and then about what lies just beyond. */
  private static void askOne(String run) {
    int places = r.text.size() + 3;
    int i = below(places) - 1;
    int j = below(places) - 1;
    int s = below(r.states() + 2) - 1;
    int m = below(8) - 1;
    switch (below(10)) {
      case 0 -> checks.due(run + "nullable(" + m + ")", x.nullable(m), r.nullable(m));
      case 1 -> checks.due(run + "states()", x.states(), r.states());
      case 2 -> {
        int a = below(12) - 1;
        checks.due(run + "leads(" + s + ", " + a + ")", x.leads(s, a), r.leads(s, a));
      }
      case 3 -> checks.due(run + "reduces(" + s + ")", x.reduces(s), r.reduces(s));
      case 4 -> checks.due(run + "stands(" + i + ", " + s + ")", x.stands(i, s), r.stands(i, s));
      case 5 -> checks.due(run + "frontier(" + i + ")", x.frontier(i), r.frontier(i));
      case 6 -> checks.due(run + "accepted()", x.accepted(), r.accepted());
      case 7 -> checks.due(run + "used(" + m + ", " + i + ", " + j + ")", x.used(m, i, j), r.used(m, i, j));
      case 8 -> checks.due(run + "families(" + m + ", " + i + ", " + j + ")", x.families(m, i, j), r.families(m, i, j));
      default -> askTree(run);
    }
  }

  private static void askTree(String run) {
    int trees = r.trees();
    int k = below(Math.max(0, trees) < 1000000000 ? Math.max(0, trees) + 2 : 1000000001) - 1;
    List<Integer> row = r.endless() ? null : r.row(k);
    int none = r.endless() ? Subject.STATE : Subject.ELEMENT;
    int i = below(row == null ? 3 : row.size() + 2) - 1;
    switch (below(3)) {
      case 0 -> checks.due(run + "trees()", x.trees(), trees);
      case 1 -> checks.due(run + "length(" + k + ")", x.length(k), row == null ? none : row.size());
      default -> {
        int want = row == null ? none : i < 0 || i >= row.size() ? Subject.INDEX : row.get(i);
        checks.due(run + "made(" + k + ", " + i + ")", x.made(k, i), want);
      }
    }
  }
}
