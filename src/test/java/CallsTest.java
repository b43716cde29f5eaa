import java.util.List;

/** What an object is good for: 512 calls, whatever they are. */
public final class CallsTest {
  private static final Checks checks = new Checks("CallsTest");
  private static NulledForest x;
  private static int calls;

  public static void main(String[] args) {
    lastCall();
    dearCalls();
    checks.end();
  }

  private static void call(String name, int got, int want) {
    calls++;
    checks.due("call " + calls + ", " + name, got, want);
  }

  /** Every call of the face as the 512th, behind many changes. */
  private static void lastCall() {
    checks.says("An object is used for at most 512 calls after it has been made");
    for (Questions.Question last : lastQuestions()) {
      x = new NulledForest();
      calls = 0;
      while (calls + 11 + 6 <= Subject.MOST_CALLS) {
        round();
      }
      while (calls + 6 < Subject.MOST_CALLS) {
        call("states()", x.states(), 2);
      }
      pairs();
      int due = Integer.parseInt(last.call().substring(last.call().indexOf("= ") + 2));
      call(last.call(), last.ask().applyAsInt(x), due);
      checks.due("calls made", calls, Subject.MOST_CALLS);
    }
  }

  private static void pairs() {
    call("rule", x.rule(0, 0, 0, -1, -1), 0);
    call("rule", x.rule(0, 6, -1, -1, -1), 1);
    for (int n = 0; n < 3; n++) {
      call("word(6)", x.word(6) ? 1 : 0, 1);
    }
  }

  private static void round() {
    pairs();
    call("trees()", x.trees(), 2);
    call("frontier(3)", x.frontier(3), 3);
    call("made(1, 1)", Subject.made(x, 1, 1), 0);
    call("made(2, 0)", Subject.made(x, 2, 0), Subject.ELEMENT);
    call("erase()", x.erase(), 3);
    call("clear()", x.clear(), 2);
  }

  private static List<Questions.Question> lastQuestions() {
    return List.of(
        new Questions.Question("rule = 2", y -> y.rule(0, -1, -1, -1, -1)),
        new Questions.Question("the same rule = -1", y -> y.rule(0, 6, -1, -1, -1)),
        new Questions.Question("word(9) = 1", y -> y.word(9) ? 1 : 0),
        new Questions.Question("word(5) = 0", y -> y.word(5) ? 1 : 0),
        new Questions.Question("erase() = 3", NulledForest::erase),
        new Questions.Question("clear() = 2", NulledForest::clear),
        new Questions.Question("nullable(0) = 0", y -> y.nullable(0) ? 1 : 0),
        new Questions.Question("states() = 4", NulledForest::states),
        new Questions.Question("leads(3, 6) = 2", y -> y.leads(3, 6)),
        new Questions.Question("reduces(2) = 1", y -> y.reduces(2)),
        new Questions.Question("stands(1, 2) = 1", y -> y.stands(1, 2) ? 1 : 0),
        new Questions.Question("frontier(1) = 2", y -> y.frontier(1)),
        new Questions.Question("accepted() = 1", y -> y.accepted() ? 1 : 0),
        new Questions.Question("used(0, 0, 2) = 1", y -> y.used(0, 0, 2) ? 1 : 0),
        new Questions.Question("families(0, 0, 3) = 2", y -> y.families(0, 0, 3)),
        new Questions.Question("trees() = 2", NulledForest::trees),
        new Questions.Question("length(1) = 5", y -> Subject.length(y, 1)),
        new Questions.Question("length(2) = " + Subject.ELEMENT, y -> Subject.length(y, 2)),
        new Questions.Question("made(1, 4) = 1", y -> Subject.made(y, 1, 4)),
        new Questions.Question("made(1, 5) = " + Subject.INDEX, y -> Subject.made(y, 1, 5)));
  }

  /** The dearest calls again and again: rules with too many states, the last of many trees, new texts. */
  private static void dearCalls() {
    checks.says("An object is used for at most 512 calls after it has been made");
    x = new NulledForest();
    new World("60 states, ten words", Grammars.SIXTY, Checks.times(6, 10)).make(x);
    calls = Grammars.SIXTY.length + 10;
    int[] r = Grammars.TO_76;
    while (calls + 18 <= Subject.MOST_CALLS) {
      call("rule", x.rule(r[0], r[1], r[2], r[3], r[4]), -1);
      call("frontier(10)", x.frontier(10), 59);
      call("trees()", x.trees(), 9608);
      call("made(9608, 0)", Subject.made(x, 9608, 0), Subject.ELEMENT);
      call("made(9607, -1)", Subject.made(x, 9607, -1), Subject.INDEX);
      call("whether made(9607, 0) is a rule of maker 0", Subject.made(x, 9607, 0) >= 0 ? 1 : 0, 1);
      call("erase()", x.erase(), 10);
      for (int n = 0; n < 10; n++) {
        call("word(6)", x.word(6) ? 1 : 0, 1);
      }
    }
    while (calls < Subject.MOST_CALLS) {
      call("trees()", x.trees(), 9608);
    }
  }
}
