import java.util.ArrayList;
import java.util.List;

/** A call that is refused changes nothing: all that can be asked is as it was, in many worlds. */
public final class RefusedTest {
  private static final Checks checks = new Checks("RefusedTest");

  public static void main(String[] args) {
    checks.says("A call that is refused changes nothing.");
    int most = 0;
    for (World world : World.all()) {
      for (Questions.Question refused : refused(world)) {
        asBefore(world, refused);
        asWithout(world, refused);
      }
      most = Math.max(most, world.rules().length + world.words().length + 1 + 2 * Questions.SLICE);
    }
    checks.due("whether all objects stayed within their calls", most <= Subject.MOST_CALLS, true);
    checks.end();
  }

  /** Every question before the refused call and behind it, to the same object. */
  private static void asBefore(World world, Questions.Question refused) {
    for (int s = 0; s < Questions.slices(); s++) {
      NulledForest x = new NulledForest();
      world.make(x);
      List<Questions.Question> questions = Questions.slice(s);
      int[] before = Questions.answers(x, questions);
      refuse(world, refused, x);
      int[] behind = Questions.answers(x, questions);
      for (int n = 0; n < before.length; n++) {
        checks.due(world.name() + ", behind " + refused.call() + ": " + questions.get(n).call(), behind[n], before[n]);
      }
    }
  }

  /** The changing calls, to an object that has refused a call and to one that has not been asked. */
  private static void asWithout(World world, Questions.Question refused) {
    for (Questions.Question change : Questions.changes()) {
      NulledForest x = new NulledForest();
      NulledForest y = new NulledForest();
      world.make(x);
      world.make(y);
      refuse(world, refused, x);
      int got = change.ask().applyAsInt(x);
      checks.due(world.name() + ", behind " + refused.call() + ": " + change.call(), got, change.ask().applyAsInt(y));
      int trees = x.trees();
      checks.due(world.name() + ", behind " + refused.call() + ", " + change.call() + ": trees()", trees, y.trees());
    }
  }

  private static void refuse(World world, Questions.Question refused, NulledForest x) {
    int answer = refused.ask().applyAsInt(x);
    checks.due(world.name() + ": whether " + refused.call() + " is refused", answer < 0, true);
  }

  private static List<Questions.Question> refused(World world) {
    List<Questions.Question> calls = new ArrayList<>();
    int[][] never = {{-1, 6, -1, -1, -1}, {6, 6, 7, 8, 9}, {Integer.MAX_VALUE, -1, -1, -1, -1}, {0, -2, -1, -1, -1},
        {0, 10, 6, 6, 6}, {0, 6, 10, -1, -1}, {0, 7, -2, 7, 7}, {1, 6, 7, 10, -1}, {2, 0, 0, Integer.MIN_VALUE, 0},
        {5, 6, 7, 8, 10}, {0, 9, 9, 9, -2}};
    for (int[] r : never) {
      calls.add(rule(r));
    }
    int count = world.rules().length;
    if (count > 0) {
      calls.add(rule(again(world.rules()[0])));
      calls.add(rule(again(world.rules()[count - 1])));
    }
    if (count == 14) {
      calls.add(rule(new int[] {0, 6, 6, 6, 6}));
      calls.add(rule(new int[] {0, -1, -1, -1, -1}));
    }
    for (int[] r : world.tooMany()) {
      calls.add(rule(r));
    }
    for (int none : new int[] {-1, 0, 5, 10, Integer.MIN_VALUE, Integer.MAX_VALUE}) {
      calls.add(word(none));
    }
    if (world.words().length == 10) {
      calls.add(word(6));
      calls.add(word(9));
    }
    addAsking(calls);
    return calls;
  }

  private static Questions.Question rule(int[] r) {
    return new Questions.Question("rule" + java.util.Arrays.toString(r),
        x -> x.rule(r[0], r[1], r[2], r[3], r[4]));
  }

  /** A rule with its own symbols, but others behind its end. */
  private static int[] again(int[] rule) {
    int[] r = {0, 8, 8, 8, 8};
    System.arraycopy(rule, 0, r, 0, rule.length);
    if (rule.length < 5) {
      r[rule.length] = -1;
    }
    return r;
  }

  private static Questions.Question word(int w) {
    return new Questions.Question("word(" + w + ")", x -> x.word(w) ? 1 : -1);
  }

  /** What is asked about things that there are not. */
  private static void addAsking(List<Questions.Question> calls) {
    calls.add(new Questions.Question("leads(60, 0)", x -> x.leads(60, 0)));
    calls.add(new Questions.Question("reduces(60)", x -> x.reduces(60)));
    calls.add(new Questions.Question("frontier(11)", x -> x.frontier(11)));
    calls.add(new Questions.Question("stands(11, 60)", x -> x.stands(11, 60) ? 1 : -1));
    calls.add(new Questions.Question("nullable(6)", x -> x.nullable(6) ? 1 : -1));
    calls.add(new Questions.Question("used(6, -1, 11)", x -> x.used(6, -1, 11) ? 1 : -1));
    calls.add(new Questions.Question("families(-1, 11, 0)", x -> x.families(-1, 11, 0) - 1));
    calls.add(new Questions.Question("length(-1)", x -> Subject.length(x, -1)));
    calls.add(new Questions.Question("length(1000000000)", x -> Subject.length(x, 1000000000)));
    calls.add(new Questions.Question("made(-1, 0)", x -> Subject.made(x, -1, 0)));
    calls.add(new Questions.Question("made(0, -1)", x -> Subject.made(x, 0, -1)));
    calls.add(new Questions.Question("made(0, MAX)", x -> Subject.made(x, 0, Integer.MAX_VALUE)));
  }
}
