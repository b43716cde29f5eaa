import java.util.ArrayList;
import java.util.List;
import java.util.function.Consumer;
import java.util.function.ToIntFunction;

/** All that can be asked of an object, to show that two objects cannot be told apart. */
final class Questions {
  record Question(String call, ToIntFunction<NulledForest> ask) {}

  /** Twice as many, and the calls before and between, stay below the 512 calls of an object. */
  static final int SLICE = 220;

  private static final int[] MANY_TREES = {-1, 0, 1, 2, 3, 41, 4861, 4862, 999999998, 999999999, 1000000000,
      Integer.MIN_VALUE, Integer.MAX_VALUE};

  /** Calls that change nothing. */
  private static final List<Question> ASKING = asking();
  /** Calls that may change something: each needs an object of its own. */
  private static final List<Question> CHANGING = changing();

  private Questions() {}

  /** The slices go through all questions in strides, so that each has some of every kind. */
  static int slices() {
    return (ASKING.size() + SLICE - 1) / SLICE;
  }

  static List<Question> slice(int number) {
    List<Question> some = new ArrayList<>();
    for (int n = number; n < ASKING.size(); n += slices()) {
      some.add(ASKING.get(n));
    }
    return some;
  }

  static List<Question> changes() {
    return CHANGING;
  }

  static int[] answers(NulledForest x, List<Question> questions) {
    int[] answers = new int[questions.size()];
    for (int n = 0; n < answers.length; n++) {
      answers[n] = questions.get(n).ask.applyAsInt(x);
    }
    return answers;
  }

  /** Some of every kind, so that an object has worked all out that it keeps. */
  static void askSome(NulledForest x) {
    x.nullable(0);
    x.reduces(0);
    x.frontier(0);
    x.used(0, 0, 0);
    x.trees();
    Subject.length(x, 0);
    Subject.made(x, 0, 0);
  }

  /** Objects made in two ways answer all questions in the same way. */
  static void same(Checks checks, String name, Consumer<NulledForest> one, Consumer<NulledForest> other) {
    for (int s = 0; s < slices(); s++) {
      compare(checks, name, one, other, slice(s));
    }
    for (Question change : CHANGING) {
      compare(checks, name, one, other, List.of(change));
    }
  }

  private static void compare(Checks checks, String name, Consumer<NulledForest> one, Consumer<NulledForest> other,
      List<Question> questions) {
    NulledForest x = new NulledForest();
    NulledForest y = new NulledForest();
    one.accept(x);
    other.accept(y);
    int[] got = answers(x, questions);
    int[] want = answers(y, questions);
    for (int n = 0; n < got.length; n++) {
      checks.due(name + ": " + questions.get(n).call, got[n], want[n]);
    }
  }

  private static List<Question> asking() {
    List<Question> all = new ArrayList<>();
    all.add(new Question("states()", NulledForest::states));
    all.add(new Question("accepted()", x -> x.accepted() ? 1 : 0));
    all.add(new Question("trees()", NulledForest::trees));
    addAutomaton(all);
    addParts(all);
    for (int k : MANY_TREES) {
      all.add(new Question("length(" + k + ")", x -> Subject.length(x, k)));
      for (int i = -1; i < 22; i++) {
        int index = i;
        all.add(new Question("made(" + k + ", " + i + ")", x -> Subject.made(x, k, index)));
      }
    }
    return all;
  }

  private static void addAutomaton(List<Question> all) {
    for (int s = -1; s <= 60; s++) {
      int state = s;
      all.add(new Question("reduces(" + s + ")", x -> x.reduces(state)));
      for (int a = -1; a <= 10; a++) {
        int symbol = a;
        all.add(new Question("leads(" + s + ", " + a + ")", x -> x.leads(state, symbol)));
      }
      for (int p = -1; p <= 11; p++) {
        int place = p;
        all.add(new Question("stands(" + p + ", " + s + ")", x -> x.stands(place, state) ? 1 : 0));
      }
    }
    for (int p = -1; p <= 11; p++) {
      int place = p;
      all.add(new Question("frontier(" + p + ")", x -> x.frontier(place)));
    }
  }

  private static void addParts(List<Question> all) {
    for (int m = -1; m <= 6; m++) {
      int maker = m;
      all.add(new Question("nullable(" + m + ")", x -> x.nullable(maker) ? 1 : 0));
      for (int part = 0; part < 13 * 13; part++) {
        int i = part / 13 - 1;
        int j = part % 13 - 1;
        String name = "(" + m + ", " + i + ", " + j + ")";
        all.add(new Question("used" + name, x -> x.used(maker, i, j) ? 1 : 0));
        all.add(new Question("families" + name, x -> x.families(maker, i, j)));
      }
    }
  }

  private static List<Question> changing() {
    List<Question> all = new ArrayList<>();
    all.add(new Question("erase()", NulledForest::erase));
    all.add(new Question("clear()", NulledForest::clear));
    all.add(new Question("how many words more are taken", x -> {
      int taken = 0;
      while (taken < 20 && x.word(6)) {
        taken++;
      }
      return taken;
    }));
    all.add(new Question("how many rules more are taken", x -> {
      int taken = 0;
      for (int n = 0; n < 20; n++) {
        taken += x.rule(5, 6 + n % 4, 6 + n / 4, 9, 9) >= 0 ? 1 : 0;
      }
      return taken;
    }));
    for (int[] r : new int[][] {{5, 9, 9, 9, 9}, {0, 6, 0, 7, -1}, {0, 6, -1, -1, -1}, {0, -1, -1, -1, -1},
        Grammars.TO_61, Grammars.TO_76}) {
      all.add(new Question("rule" + java.util.Arrays.toString(r), x -> x.rule(r[0], r[1], r[2], r[3], r[4])));
    }
    return all;
  }
}
