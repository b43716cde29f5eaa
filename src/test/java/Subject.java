import java.util.ArrayList;
import java.util.List;
import java.util.NoSuchElementException;
import java.util.function.ToIntFunction;

/**
 * An object under test, and the calls that have changed it. Nothing is promised behind an object's 512th
 * call: before a 513th a new object takes its place, which goes through the same changes first.
 */
final class Subject {
  static final int MOST_CALLS = 512;
  /** What stands for the exceptions where an answer is due. */
  static final int STATE = -1001;
  static final int ELEMENT = -1002;
  static final int INDEX = -1003;

  private record Change(ToIntFunction<NulledForest> call, int answer) {}

  private final List<Change> changes = new ArrayList<>();
  private NulledForest object = new NulledForest();
  private int calls;

  int rule(int left, int a, int b, int c, int d) {
    return change(x -> x.rule(left, a, b, c, d));
  }

  boolean word(int w) {
    return change(x -> x.word(w) ? 1 : 0) == 1;
  }

  int erase() {
    return change(NulledForest::erase);
  }

  int clear() {
    return change(NulledForest::clear);
  }

  boolean nullable(int maker) {
    return next().nullable(maker);
  }

  int states() {
    return next().states();
  }

  int leads(int state, int symbol) {
    return next().leads(state, symbol);
  }

  int reduces(int state) {
    return next().reduces(state);
  }

  boolean stands(int place, int state) {
    return next().stands(place, state);
  }

  int frontier(int place) {
    return next().frontier(place);
  }

  boolean accepted() {
    return next().accepted();
  }

  boolean used(int maker, int i, int j) {
    return next().used(maker, i, j);
  }

  int families(int maker, int i, int j) {
    return next().families(maker, i, j);
  }

  int trees() {
    return next().trees();
  }

  int length(int k) {
    return length(next(), k);
  }

  int made(int k, int i) {
    return made(next(), k, i);
  }

  static int length(NulledForest x, int k) {
    try {
      return x.length(k);
    } catch (IllegalStateException e) {
      return STATE;
    } catch (NoSuchElementException e) {
      return ELEMENT;
    }
  }

  static int made(NulledForest x, int k, int i) {
    try {
      return x.made(k, i);
    } catch (IllegalStateException e) {
      return STATE;
    } catch (NoSuchElementException e) {
      return ELEMENT;
    } catch (IndexOutOfBoundsException e) {
      return INDEX;
    }
  }

  private int change(ToIntFunction<NulledForest> call) {
    int answer = call.applyAsInt(next());
    changes.add(new Change(call, answer));
    return answer;
  }

  private NulledForest next() {
    if (calls == MOST_CALLS) {
      renew();
    }
    calls++;
    return object;
  }

  private void renew() {
    object = new NulledForest();
    calls = changes.size();
    for (Change change : changes) {
      if (change.call.applyAsInt(object) != change.answer) {
        throw new AssertionError("the same calls do not answer the same");
      }
    }
  }
}
