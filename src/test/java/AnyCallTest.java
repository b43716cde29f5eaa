import java.util.ArrayList;
import java.util.List;
import java.util.NoSuchElementException;

/**
 * Any calls with any arguments in any state, and far behind an object's 512th call too: each ends, throws nothing but
 * what the document tells, answers within its bounds, and answers the same again (LANGUAGE.md, rules 6, 7 and 13).
 */
public final class AnyCallTest {
  private static final int RUNS = 400;
  private static final int CALLS = 1500;
  private static final int CALL_KINDS = 16;
  private static final int[] FAR = {Integer.MIN_VALUE, Integer.MIN_VALUE + 1, -1000000000, -65536, -128, -64, -61, -32,
      -11, -3, -2, -1, 10, 11, 12, 13, 14, 15, 31, 32, 33, 59, 60, 61, 63, 64, 65, 121, 127, 128, 600, 726, 1000, 1210,
      65535, 999999, 1000000, 999999998, 999999999, 1000000000, 1000000001, Integer.MAX_VALUE - 1, Integer.MAX_VALUE};

  private static final Checks checks = new Checks("AnyCallTest");
  private static final int[] refusals = new int[3];
  private static long seed = 512L;
  private static int last;

  public static void main(String[] args) {
    for (int run = 0; run < RUNS; run++) {
      List<int[]> calls = draw(run);
      NulledForest x = new NulledForest();
      NulledForest y = new NulledForest();
      for (int[] call : calls) {
        int answer = answer(x, call);
        checks.says("the same calls always give the same answers");
        checks.due(name(run, call), answer, answer(y, call));
      }
    }
    checks.says("each of the document's exceptions came");
    for (int n = 0; n < refusals.length; n++) {
      checks.due("whether refusal " + n + " came", refusals[n] > 0, true);
    }
    checks.end();
  }

  private static int below(int bound) {
    seed = seed * 6364136223846793005L + 1442695040888963407L;
    return (int) ((seed >>> 33) % bound);
  }

  private static List<int[]> draw(int run) {
    List<int[]> calls = new ArrayList<>();
    for (int n = 0; n < CALLS; n++) {
      // Rules and words often, clear() seldom: most states are then full ones.
      int kind = n < 12 || below(10) == 0 ? 0 : below(6) == 0 ? 1 : below(CALL_KINDS);
      if (kind == 3 && below(10) > 0 || kind == 2 && below(2) > 0) {
        kind = 14 + below(2);
      }
      calls.add(new int[] {kind, argument(run, 6), argument(run, 11), argument(run, 11), argument(run, 11),
          argument(run, 11)});
    }
    return calls;
  }

  /** Some runs have wild arguments in every call, others now and then. */
  private static int argument(int run, int bound) {
    boolean wild = run % 4 == 0 ? below(2) == 0 : below(25) == 0;
    return wild ? FAR[below(FAR.length)] : below(bound) - (below(4) == 0 ? 1 : 0);
  }

  private static String name(int run, int[] call) {
    return "run " + run + ", " + java.util.Arrays.toString(call);
  }

  private static int answer(NulledForest x, int[] c) {
    try {
      last = ask(x, c);
    } catch (IllegalStateException e) {
      last = refused(c, e, Subject.STATE);
    } catch (NoSuchElementException e) {
      last = refused(c, e, Subject.ELEMENT);
    } catch (IndexOutOfBoundsException e) {
      last = refused(c, e, Subject.INDEX);
    }
    return last;
  }

  /** Only length and made refuse by throwing, and they throw these very classes and none below them. */
  private static int refused(int[] c, RuntimeException e, int code) {
    checks.says("A call of the face throws exactly what and where the document says");
    boolean due = c[0] == 15 || c[0] == 14 && code != Subject.INDEX;
    checks.due(name(-1, c) + " throws " + e, due, true);
    String name = e.getClass().getName();
    boolean plain = name.equals("java.lang.IllegalStateException") || name.equals("java.util.NoSuchElementException")
        || name.equals("java.lang.IndexOutOfBoundsException");
    checks.due(name(-1, c) + " throws " + name, plain, true);
    refusals[Subject.STATE - code]++;
    return code;
  }

  private static int ask(NulledForest x, int[] c) {
    int smallState = c[1] >= 0 && c[1] < 6 ? c[1] * 10 + Math.floorMod(c[2], 11) : c[1];
    return switch (c[0]) {
      case 0 -> within(c, x.rule(c[1], c[2] == 10 ? -1 : c[2], c[3], c[4], c[5]), -1, 13);
      case 1 -> x.word(c[2] >= 0 && c[2] < 10 ? 6 + c[2] % 5 : c[2]) ? 1 : 0;
      case 2 -> within(c, x.erase(), 0, 10);
      case 3 -> within(c, x.clear(), 0, 14);
      case 4 -> x.nullable(c[1]) ? 1 : 0;
      case 5 -> within(c, x.states(), 2, 60);
      case 6 -> within(c, x.leads(smallState, c[3]), -1, 59);
      case 7 -> within(c, x.reduces(smallState), -1, 70);
      case 8 -> x.stands(c[3], smallState) ? 1 : 0;
      case 9 -> within(c, x.frontier(c[2]), -1, 60);
      case 10 -> x.accepted() ? 1 : 0;
      case 11 -> x.used(c[1], c[2], c[3]) ? 1 : 0;
      case 12 -> within(c, x.families(c[1], c[2], c[3]), 0, 14 * 286);
      case 13 -> within(c, x.trees(), -1, 1000000000);
      case 14 -> within(c, x.length(c[1]), 1, 466944);
      default -> within(c, x.made(c[1], c[2]), 0, 13);
    };
  }

  private static int within(int[] c, int answer, int least, int most) {
    checks.says("answers within its bounds");
    checks.due(name(-1, c) + " answered " + answer + ", whether that can be", answer >= least && answer <= most, true);
    return answer;
  }
}
