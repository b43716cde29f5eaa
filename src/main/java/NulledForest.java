import java.util.Arrays;
import java.util.NoSuchElementException;

/**
 * A grammar of any kind and a row of words: whether the grammar makes the row, in how many ways, which
 * parts of it stand for what; and the automaton of the grammar with its states behind each word.
 */
public final class NulledForest {
  public static final int NONE = -1;

  private static final int MAKERS = 6;
  private static final int SYMBOLS = 10;
  private static final int MOST_RULES = 14;
  private static final int MOST_RIGHT = 4;
  private static final int MOST_WORDS = 10;
  private static final int PLACES = MOST_WORDS + 1;
  private static final int MOST_STATES = 60;
  private static final int MOST_TREES = 1000000000;

  private final Grammar grammar;
  private final Automaton automaton;
  private final Chart chart;
  private final Frontier front;
  private final Uses uses;
  private final Forest forest;
  private final Walk walk;
  // What hangs on the rules and the text is worked out only when a call asks for it.
  private boolean chartReady;
  private boolean frontReady;
  private boolean forestReady;

  public NulledForest() {
    grammar = new Grammar();
    automaton = new Automaton(grammar);
    chart = new Chart(grammar);
    front = new Frontier(automaton, chart);
    uses = new Uses(grammar, chart);
    forest = new Forest(grammar, chart, uses);
    walk = new Walk(grammar, chart, forest);
    automaton.build();
  }

  public int rule(int left, int a, int b, int c, int d) {
    if (!grammar.add(left, a, b, c, d)) {
      return NONE;
    }
    if (!automaton.build()) {
      grammar.dropLast();
      automaton.build();
      return NONE;
    }
    outdate();
    return grammar.count - 1;
  }

  public boolean word(int w) {
    if (w < MAKERS || w >= SYMBOLS || chart.size >= MOST_WORDS) {
      return false;
    }
    chart.text[chart.size] = w;
    chart.size++;
    outdate();
    return true;
  }

  public int erase() {
    int before = chart.size;
    chart.size = 0;
    outdate();
    return before;
  }

  public int clear() {
    int before = grammar.count;
    grammar.count = 0;
    chart.size = 0;
    automaton.build();
    outdate();
    return before;
  }

  public boolean nullable(int maker) {
    if (!isMaker(maker)) {
      return false;
    }
    readyChart();
    return chart.empties(maker);
  }

  public int states() {
    return automaton.count;
  }

  public int leads(int state, int symbol) {
    return isState(state) && symbol >= 0 && symbol < SYMBOLS ? automaton.next(state, symbol) : NONE;
  }

  public int reduces(int state) {
    if (!isState(state)) {
      return NONE;
    }
    readyChart();
    return automaton.finished(state, chart);
  }

  public boolean stands(int place, int state) {
    if (!isPlace(place) || !isState(state)) {
      return false;
    }
    readyFront();
    return (front.at[place] >> state & 1L) != 0;
  }

  public int frontier(int place) {
    if (!isPlace(place)) {
      return NONE;
    }
    readyFront();
    return Long.bitCount(front.at[place]);
  }

  public boolean accepted() {
    readyChart();
    return chart.fits(0, 0, chart.size);
  }

  public boolean used(int maker, int i, int j) {
    if (!isPart(maker, i, j)) {
      return false;
    }
    readyForest();
    return uses.holds(maker, i, j);
  }

  public int families(int maker, int i, int j) {
    if (!isPart(maker, i, j)) {
      return 0;
    }
    readyForest();
    return uses.holds(maker, i, j) ? uses.countFamilies(maker, i, j) : 0;
  }

  public int trees() {
    readyForest();
    return forest.endless ? NONE : forest.countAll();
  }

  public int length(int k) throws IllegalStateException, NoSuchElementException {
    readyForest();
    requireTree(k);
    return walk.measure(k);
  }

  public int made(int k, int i)
      throws IllegalStateException, NoSuchElementException, IndexOutOfBoundsException {
    readyForest();
    requireTree(k);
    int found = i < 0 ? NONE : walk.find(k, i);
    if (found == NONE) {
      throw new IndexOutOfBoundsException("the row of rules is not so long");
    }
    return found;
  }

  private void requireTree(int k) {
    if (forest.endless) {
      throw new IllegalStateException("there are endlessly many trees");
    }
    if (k < 0 || k >= forest.countAll()) {
      throw new NoSuchElementException("there is no such tree");
    }
  }

  private void outdate() {
    chartReady = false;
    frontReady = false;
    forestReady = false;
  }

  private void readyChart() {
    if (!chartReady) {
      chart.fill();
      chartReady = true;
    }
  }

  private void readyFront() {
    if (!frontReady) {
      readyChart();
      front.fill();
      frontReady = true;
    }
  }

  private void readyForest() {
    if (!forestReady) {
      readyChart();
      uses.mark();
      forest.grow();
      forestReady = true;
    }
  }

  private boolean isPart(int maker, int i, int j) {
    return isMaker(maker) && i >= 0 && i <= j && j <= chart.size;
  }

  private boolean isPlace(int place) {
    return place >= 0 && place <= chart.size;
  }

  private boolean isState(int state) {
    return state >= 0 && state < automaton.count;
  }

  private static boolean isMaker(int symbol) {
    return symbol >= 0 && symbol < MAKERS;
  }

  private static int nodeOf(int symbol, int i, int j) {
    return (symbol * PLACES + i) * PLACES + j;
  }

  private static int makerOf(int node) {
    return node / (PLACES * PLACES);
  }

  private static int beginOf(int node) {
    return node / PLACES % PLACES;
  }

  private static int endOf(int node) {
    return node % PLACES;
  }

  /** Numbers of trees stay below the cap, so none of them ever passes a count that has been capped. */
  private static long capped(long count) {
    return count < MOST_TREES ? count : MOST_TREES;
  }

  /** The rules. */
  private static final class Grammar {
    int count;
    final int[] left = new int[MOST_RULES];
    final int[] size = new int[MOST_RULES];
    private final int[] right = new int[MOST_RULES * MOST_RIGHT];

    int symbol(int rule, int dot) {
      return right[rule * MOST_RIGHT + dot];
    }

    boolean add(int maker, int a, int b, int c, int d) {
      if (!isMaker(maker) || count >= MOST_RULES) {
        return false;
      }
      // The place behind the last rule holds the new one until it is known to be sound.
      int at = count * MOST_RIGHT;
      right[at] = a;
      right[at + 1] = b;
      right[at + 2] = c;
      right[at + 3] = d;
      left[count] = maker;
      size[count] = rightSize(count);
      if (!hasSymbolsOnly(count) || isRepeated(count)) {
        return false;
      }
      count++;
      return true;
    }

    void dropLast() {
      if (count > 0) {
        count--;
      }
    }

    private int rightSize(int rule) {
      for (int dot = 0; dot < MOST_RIGHT; dot++) {
        if (symbol(rule, dot) == -1) {
          return dot;
        }
      }
      return MOST_RIGHT;
    }

    private boolean hasSymbolsOnly(int rule) {
      for (int dot = 0; dot < size[rule]; dot++) {
        if (symbol(rule, dot) < 0 || symbol(rule, dot) >= SYMBOLS) {
          return false;
        }
      }
      return true;
    }

    private boolean isRepeated(int rule) {
      for (int other = 0; other < rule; other++) {
        if (isSame(other, rule)) {
          return true;
        }
      }
      return false;
    }

    private boolean isSame(int one, int other) {
      if (left[one] != left[other] || size[one] != size[other]) {
        return false;
      }
      for (int dot = 0; dot < size[one]; dot++) {
        if (symbol(one, dot) != symbol(other, dot)) {
          return false;
        }
      }
      return true;
    }
  }

  /** The text, and which symbols stand for which of its parts. */
  private static final class Chart {
    int size;
    final int[] text = new int[MOST_WORDS];
    private final Grammar grammar;
    // For a symbol and a place, the set of places where parts end for which the symbol stands.
    private final int[] ends = new int[SYMBOLS * PLACES];

    Chart(Grammar grammar) {
      this.grammar = grammar;
    }

    int endsOf(int symbol, int place) {
      return ends[symbol * PLACES + place];
    }

    boolean fits(int symbol, int i, int j) {
      return (ends[symbol * PLACES + i] >> j & 1) != 0;
    }

    /** An empty part is the same at every place, so place 0 tells for all. */
    boolean empties(int symbol) {
      return (ends[symbol * PLACES] & 1) != 0;
    }

    void fill() {
      Arrays.fill(ends, 0);
      for (int place = 0; place < size; place++) {
        ends[text[place] * PLACES + place] = 1 << place + 1;
      }
      // From the last place back: what starts further behind is then whole already.
      for (int place = size; place >= 0; place--) {
        fillFrom(place);
      }
    }

    private void fillFrom(int place) {
      boolean grown = true;
      // Each round but the last finds an end more for one of the makers.
      for (int round = 0; round <= MAKERS * PLACES && grown; round++) {
        grown = false;
        for (int rule = 0; rule < grammar.count; rule++) {
          int at = grammar.left[rule] * PLACES + place;
          int found = ends[at] | endsOfRule(rule, place);
          grown = grown || found != ends[at];
          ends[at] = found;
        }
      }
    }

    private int endsOfRule(int rule, int place) {
      int reached = 1 << place;
      for (int dot = 0; dot < grammar.size[rule]; dot++) {
        reached = beyond(grammar.symbol(rule, dot), reached);
      }
      return reached;
    }

    /** Where one can be when a symbol has been passed from one of these places. */
    int beyond(int symbol, int places) {
      int reached = 0;
      for (int place = 0; place <= size; place++) {
        if ((places >> place & 1) != 0) {
          reached |= ends[symbol * PLACES + place];
        }
      }
      return reached;
    }
  }

  /** The states of the grammar and where the symbols lead. */
  private static final class Automaton {
    private static final long START_BEFORE = 1L << MOST_RULES * MOST_RIGHT;
    private static final long START_BEHIND = START_BEFORE << 1;

    int count;
    private final Grammar grammar;
    // The items that did not come by closing; two states never have the same ones.
    private final long[] kernel = new long[MOST_STATES];
    // The makers before which a dot stands: their rules with dot 0 are the rest of the state.
    private final int[] awaited = new int[MOST_STATES];
    private final int[] goal = new int[MOST_STATES * SYMBOLS];
    private final long[] moved = new long[SYMBOLS];

    Automaton(Grammar grammar) {
      this.grammar = grammar;
    }

    int next(int state, int symbol) {
      return goal[state * SYMBOLS + symbol];
    }

    /** Answers false when there would be too many states; what stands then is of no use. */
    boolean build() {
      kernel[0] = START_BEFORE;
      count = 1;
      for (int state = 0; state < count && state < MOST_STATES; state++) {
        close(state);
        move(state);
        for (int symbol = 0; symbol < SYMBOLS; symbol++) {
          int found = moved[symbol] == 0 ? NONE : stateOf(moved[symbol]);
          if (found == MOST_STATES) {
            return false;
          }
          goal[state * SYMBOLS + symbol] = found;
        }
      }
      return true;
    }

    /** How many items of rules in a state have only nullable makers behind their dot. */
    int finished(int state, Chart chart) {
      int sum = 0;
      for (int rule = 0; rule < grammar.count; rule++) {
        boolean empty = true;
        for (int dot = grammar.size[rule]; dot >= 0 && empty; dot--) {
          sum += holds(state, rule, dot) ? 1 : 0;
          empty = dot > 0 && chart.empties(grammar.symbol(rule, dot - 1));
        }
      }
      return sum;
    }

    private static long item(int rule, int dot) {
      return 1L << rule * MOST_RIGHT + dot - 1;
    }

    private boolean holds(int state, int rule, int dot) {
      if (dot == 0) {
        return (awaited[state] >> grammar.left[rule] & 1) != 0;
      }
      return (kernel[state] & item(rule, dot)) != 0;
    }

    private void close(int state) {
      awaited[state] = kernel[state] == START_BEFORE ? 1 : 0;
      boolean grown = true;
      // Each round but the last finds a maker more.
      for (int round = 0; round <= MAKERS && grown; round++) {
        int before = awaited[state];
        for (int rule = 0; rule < grammar.count; rule++) {
          for (int dot = 0; dot < grammar.size[rule]; dot++) {
            int symbol = grammar.symbol(rule, dot);
            if (isMaker(symbol) && holds(state, rule, dot)) {
              awaited[state] |= 1 << symbol;
            }
          }
        }
        grown = awaited[state] != before;
      }
    }

    private void move(int state) {
      Arrays.fill(moved, 0L);
      if (kernel[state] == START_BEFORE) {
        moved[0] = START_BEHIND;
      }
      for (int rule = 0; rule < grammar.count; rule++) {
        for (int dot = 0; dot < grammar.size[rule]; dot++) {
          if (holds(state, rule, dot)) {
            moved[grammar.symbol(rule, dot)] |= item(rule, dot + 1);
          }
        }
      }
    }

    /** The state with these items, a new one if there is none yet; MOST_STATES when there is no room. */
    private int stateOf(long items) {
      for (int state = 0; state < count; state++) {
        if (kernel[state] == items) {
          return state;
        }
      }
      if (count >= MOST_STATES) {
        return MOST_STATES;
      }
      kernel[count] = items;
      count++;
      return count - 1;
    }
  }

  /** The states in which one can be at each place of the text. */
  private static final class Frontier {
    final long[] at = new long[PLACES];
    private final Automaton automaton;
    private final Chart chart;

    Frontier(Automaton automaton, Chart chart) {
      this.automaton = automaton;
      this.chart = chart;
    }

    void fill() {
      Arrays.fill(at, 0L);
      at[0] = 1L;
      for (int place = 0; place <= chart.size; place++) {
        leave(place);
      }
    }

    private void leave(int place) {
      long left = 0L;
      // Empty parts bring states to this very place; each round takes at least one that is new.
      for (int round = 0; round < MOST_STATES && (at[place] & ~left) != 0; round++) {
        for (int state = 0; state < automaton.count; state++) {
          if ((at[place] & ~left & 1L << state) != 0) {
            left |= 1L << state;
            spread(place, state);
          }
        }
      }
    }

    private void spread(int place, int state) {
      for (int symbol = 0; symbol < SYMBOLS; symbol++) {
        int goal = automaton.next(state, symbol);
        int ends = goal == NONE ? 0 : chart.endsOf(symbol, place);
        for (int end = place; end <= chart.size; end++) {
          if ((ends >> end & 1) != 0) {
            at[end] |= 1L << goal;
          }
        }
      }
    }
  }

  /** The parts with their makers that are used, and their families. */
  private static final class Uses {
    private static final int MOST_USED = MAKERS * PLACES * (PLACES + 1) / 2;

    private final Grammar grammar;
    private final Chart chart;
    // For a maker and a place, the set of places where its used parts end.
    private final int[] ends = new int[MAKERS * PLACES];
    private final int[] queue = new int[MOST_USED];
    private int count;
    private final int[] reached = new int[MOST_RIGHT];
    private final int[] ways = new int[PLACES];

    Uses(Grammar grammar, Chart chart) {
      this.grammar = grammar;
      this.chart = chart;
    }

    boolean holds(int maker, int i, int j) {
      return (ends[maker * PLACES + i] >> j & 1) != 0;
    }

    void mark() {
      Arrays.fill(ends, 0);
      count = 0;
      if (chart.fits(0, 0, chart.size)) {
        take(0, 0, chart.size);
      }
      for (int next = 0; next < count && next < MOST_USED; next++) {
        int node = queue[next];
        for (int rule = 0; rule < grammar.count; rule++) {
          if (grammar.left[rule] == makerOf(node)) {
            takeParts(rule, beginOf(node), endOf(node));
          }
        }
      }
    }

    int countFamilies(int maker, int i, int j) {
      int sum = 0;
      for (int rule = 0; rule < grammar.count; rule++) {
        sum += grammar.left[rule] == maker ? countCuts(rule, i, j) : 0;
      }
      return sum;
    }

    private void take(int maker, int i, int j) {
      int at = maker * PLACES + i;
      if ((ends[at] >> j & 1) == 0 && count < MOST_USED) {
        ends[at] |= 1 << j;
        queue[count] = at * PLACES + j;
        count++;
      }
    }

    private void takeParts(int rule, int i, int j) {
      reached[0] = 1 << i;
      for (int dot = 0; dot < grammar.size[rule] - 1; dot++) {
        reached[dot + 1] = chart.beyond(grammar.symbol(rule, dot), reached[dot]);
      }
      // Back from the end: only places from which the rest of the rule makes the rest of the part.
      int wanted = 1 << j;
      for (int dot = grammar.size[rule] - 1; dot >= 0; dot--) {
        wanted = takeSymbol(grammar.symbol(rule, dot), reached[dot], wanted);
      }
    }

    /** Answers from which of the begins the symbol stands for a part with one of the wanted ends. */
    private int takeSymbol(int symbol, int begins, int wanted) {
      int fitting = 0;
      for (int begin = 0; begin <= chart.size; begin++) {
        int hits = (begins >> begin & 1) == 0 ? 0 : chart.endsOf(symbol, begin) & wanted;
        fitting |= hits == 0 ? 0 : 1 << begin;
        for (int end = begin; end <= chart.size && hits != 0 && symbol < MAKERS; end++) {
          if ((hits >> end & 1) != 0) {
            take(symbol, begin, end);
          }
        }
      }
      return fitting;
    }

    private int countCuts(int rule, int i, int j) {
      Arrays.fill(ways, 0);
      ways[i] = 1;
      for (int dot = 0; dot < grammar.size[rule]; dot++) {
        // From the last end back: the ways to the places before it are not yet those of the next dot.
        for (int end = j; end >= i; end--) {
          int sum = 0;
          for (int begin = i; begin <= end; begin++) {
            sum += chart.fits(grammar.symbol(rule, dot), begin, end) ? ways[begin] : 0;
          }
          ways[end] = sum;
        }
      }
      return ways[j];
    }
  }

  /** How many trees there are. A node is a part with a symbol that stands for it. */
  private static final class Forest {
    private static final int NODES = SYMBOLS * PLACES * PLACES;

    boolean endless;
    final int[] count = new int[NODES];
    // How long the row of a node's tree 0 is: few parts of a tree have another number and need a walk.
    final int[] firstLength = new int[NODES];
    // Of the rule weighed last, for a dot and a place: how many ways there are for what is behind the dot.
    final long[] rest = new long[(MOST_RIGHT + 1) * PLACES];
    private final int[] firstRest = new int[(MOST_RIGHT + 1) * PLACES];
    private final Grammar grammar;
    private final Chart chart;
    private final Uses uses;

    Forest(Grammar grammar, Chart chart, Uses uses) {
      this.grammar = grammar;
      this.chart = chart;
      this.uses = uses;
    }

    int countAll() {
      return count[chart.size];
    }

    void grow() {
      Arrays.fill(count, 0);
      // A word has one tree, and no rule in it.
      for (int place = 0; place < chart.size; place++) {
        count[nodeOf(chart.text[place], place, place + 1)] = 1;
      }
      endless = false;
      for (int length = 0; length <= chart.size && !endless; length++) {
        for (int i = 0; i + length <= chart.size && !endless; i++) {
          endless = !countPart(i, i + length);
        }
      }
    }

    /** Fills rest and answers how many trees a rule gives a part. */
    long weighRule(int rule, int i, int j) {
      int size = grammar.size[rule];
      for (int place = i; place <= j; place++) {
        rest[size * PLACES + place] = place == j ? 1 : 0;
        firstRest[size * PLACES + place] = 0;
      }
      for (int dot = size - 1; dot >= 0; dot--) {
        int symbol = grammar.symbol(rule, dot);
        for (int begin = i; begin <= j; begin++) {
          long sum = 0;
          for (int end = begin; end <= j; end++) {
            int node = nodeOf(symbol, begin, end);
            int behind = (dot + 1) * PLACES + end;
            long ways = count[node] * rest[behind];
            if (sum == 0 && ways > 0) {
              firstRest[dot * PLACES + begin] = firstLength[node] + firstRest[behind];
            }
            sum = capped(sum + ways);
          }
          rest[dot * PLACES + begin] = sum;
        }
      }
      return rest[i];
    }

    /** Counts for each maker after those that its trees hold for the same part; false if these go round. */
    private boolean countPart(int i, int j) {
      int open = 0;
      for (int maker = 0; maker < MAKERS; maker++) {
        open |= uses.holds(maker, i, j) ? 1 << maker : 0;
      }
      for (int round = 0; round < MAKERS && open != 0; round++) {
        for (int maker = 0; maker < MAKERS; maker++) {
          if ((open >> maker & 1) != 0 && (open & makersWithin(maker, i, j)) == 0) {
            countNode(maker, i, j);
            open &= ~(1 << maker);
          }
        }
      }
      return open == 0;
    }

    /** The makers that stand for the same part in a family of this one. */
    private int makersWithin(int maker, int i, int j) {
      int found = 0;
      for (int rule = 0; rule < grammar.count; rule++) {
        for (int dot = 0; dot < grammar.size[rule] && grammar.left[rule] == maker; dot++) {
          int symbol = grammar.symbol(rule, dot);
          if (symbol < MAKERS && chart.fits(symbol, i, j) && othersEmpty(rule, dot)) {
            found |= 1 << symbol;
          }
        }
      }
      return found;
    }

    private boolean othersEmpty(int rule, int except) {
      for (int dot = 0; dot < grammar.size[rule]; dot++) {
        if (dot != except && !chart.empties(grammar.symbol(rule, dot))) {
          return false;
        }
      }
      return true;
    }

    private void countNode(int maker, int i, int j) {
      int node = nodeOf(maker, i, j);
      long sum = 0;
      for (int rule = 0; rule < grammar.count; rule++) {
        long trees = grammar.left[rule] == maker ? weighRule(rule, i, j) : 0;
        if (sum == 0 && trees > 0) {
          firstLength[node] = 1 + firstRest[i];
        }
        sum = capped(sum + trees);
      }
      count[node] = (int) sum;
    }
  }

  /** The way through one tree of the text, rule by rule. */
  private static final class Walk {
    // A path goes down through at most 66 makers, and each leaves at most 3 symbols waiting.
    private static final int MOST_WAITING = 256;
    // A tree goes through at most 19 parts with a word, 6 makers for each, and beside these 3 empty trees of 1365.
    private static final int MOST_STEPS = 1000000;

    private final Grammar grammar;
    private final Chart chart;
    private final Forest forest;
    private final int[] cut = new int[MOST_RIGHT + 1];
    private final int[] share = new int[MOST_RIGHT];
    private final int[] waitingNode = new int[MOST_WAITING];
    private final int[] waitingTree = new int[MOST_WAITING];
    private int waiting;
    private int passed;

    Walk(Grammar grammar, Chart chart, Forest forest) {
      this.grammar = grammar;
      this.chart = chart;
      this.forest = forest;
    }

    int measure(int k) {
      find(k, MOST_STEPS);
      return passed;
    }

    /** The rule at an index of tree k's row; NONE when the row ends before, and passed is its length then. */
    int find(int k, int index) {
      passed = 0;
      waiting = 0;
      push(nodeOf(0, 0, chart.size), k);
      for (int step = 0; step < MOST_STEPS && waiting > 0; step++) {
        waiting--;
        int node = waitingNode[waiting];
        int tree = waitingTree[waiting];
        if (tree == 0 && index - passed >= forest.firstLength[node]) {
          passed += forest.firstLength[node];
          continue;
        }
        int rule = choose(node, tree);
        if (rule == NONE || passed == index) {
          return rule;
        }
        passed++;
        pushParts(rule);
      }
      return NONE;
    }

    private void push(int node, int tree) {
      if (waiting < MOST_WAITING) {
        waitingNode[waiting] = node;
        waitingTree[waiting] = tree;
        waiting++;
      }
    }

    /** Backwards, so that the leftmost is taken next. */
    private void pushParts(int rule) {
      for (int dot = grammar.size[rule] - 1; dot >= 0; dot--) {
        push(nodeOf(grammar.symbol(rule, dot), cut[dot], cut[dot + 1]), share[dot]);
      }
    }

    /** The rule of a node's tree; cut and share tell where it cuts and the numbers of the trees below. */
    private int choose(int node, int tree) {
      long number = tree;
      for (int rule = 0; rule < grammar.count; rule++) {
        if (grammar.left[rule] == makerOf(node)) {
          long trees = forest.weighRule(rule, beginOf(node), endOf(node));
          if (number < trees) {
            shareOut(rule, chooseCuts(rule, node, number));
            return rule;
          }
          number -= trees;
        }
      }
      return NONE;
    }

    /** Cuts decide before the trees below do; answers the number among the trees with all of these cuts. */
    private long chooseCuts(int rule, int node, long tree) {
      long number = tree;
      long before = 1;
      cut[0] = beginOf(node);
      for (int dot = 0; dot < grammar.size[rule]; dot++) {
        for (int end = cut[dot]; end <= endOf(node); end++) {
          long upTo = capped(before * forest.count[nodeOf(grammar.symbol(rule, dot), cut[dot], end)]);
          long trees = capped(upTo * forest.rest[(dot + 1) * PLACES + end]);
          if (number < trees) {
            before = upTo;
            cut[dot + 1] = end;
            break;
          }
          number -= trees;
        }
      }
      return number;
    }

    /** The leftmost tree below decides first, so the rightmost one changes fastest. */
    private void shareOut(int rule, long tree) {
      long number = tree;
      for (int dot = grammar.size[rule] - 1; dot >= 0; dot--) {
        int trees = forest.count[nodeOf(grammar.symbol(rule, dot), cut[dot], cut[dot + 1])];
        share[dot] = trees > 1 ? (int) (number % trees) : 0;
        number = trees > 1 ? number / trees : number;
      }
    }
  }
}
