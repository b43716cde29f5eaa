import java.util.List;

/** A grammar with a text, to be made anew as often as a test needs it, and rules that need too many states. */
record World(String name, int[][] rules, int[][] tooMany, int... words) {
  World(String name, int[][] rules, int... words) {
    this(name, rules, new int[][] {}, words);
  }

  static List<World> all() {
    return List.of(
        new World("no rules, no text", new int[][] {}),
        new World("no rules, ten words", new int[][] {}, 6, 7, 8, 9, 6, 7, 8, 9, 6, 7),
        new World("brackets", Grammars.BRACKETS, 6, 6, 7, 7),
        new World("brackets that do not close", Grammars.BRACKETS, 6, 6, 7),
        new World("pairs, ten words", Grammars.PAIRS, Checks.times(6, 10)),
        new World("fourteen rules", Grammars.FOURTEEN, 8, 6),
        new World("fourteen rules, ten words", Grammars.FOURTEEN, Checks.times(9, 10)),
        new World("29 states", Grammars.FROM_29, new int[][] {{2, 1, 0, 0, 5}}, Checks.times(6, 7)),
        new World("60 states", Grammars.SIXTY, new int[][] {Grammars.TO_61, Grammars.TO_76}, Checks.times(6, 6)),
        new World("60 states, ten words", Grammars.SIXTY, new int[][] {Grammars.TO_61}, Checks.times(6, 10)),
        new World("endless", new int[][] {{0, 1, 0, 1}, {0, 6}, {1}, {1, 7}}, 7, 6, 7),
        new World("endless empty part", new int[][] {{0, 0, 0}, {0}}),
        new World("all but a billion", Grammars.BILLION_BUT_ONE, Checks.times(6, 9)),
        new World("more than a billion", Grammars.BILLION_BUT_ONE, Checks.times(6, 10)));
  }

  void makeRules(NulledForest x) {
    for (int[] rule : rules) {
      int[] r = {-1, -1, -1, -1};
      System.arraycopy(rule, 1, r, 0, rule.length - 1);
      x.rule(rule[0], r[0], r[1], r[2], r[3]);
    }
  }

  void make(NulledForest x) {
    makeRules(x);
    makeText(x);
  }

  void makeText(NulledForest x) {
    for (int w : words) {
      x.word(w);
    }
  }

  /** The same, but with questions behind each change. */
  void makeAndAsk(NulledForest x) {
    for (int n = 0; n < rules.length; n++) {
      new World(name, new int[][] {rules[n]}).makeRules(x);
      Questions.askSome(x);
    }
    for (int w : words) {
      x.word(w);
      Questions.askSome(x);
    }
  }
}
