import java.math.BigInteger;
import java.util.ArrayDeque;
import java.util.ArrayList;
import java.util.HashMap;
import java.util.HashSet;
import java.util.List;
import java.util.Map;
import java.util.Set;
import java.util.TreeSet;

/** The document's terms written down as plainly as can be, to be held against the class. */
final class Reference {
  record Node(int maker, int i, int j) {}

  record Family(int rule, List<Integer> cuts) {}

  record Item(int rule, int dot) implements Comparable<Item> {
    public int compareTo(Item o) {
      return rule != o.rule ? Integer.compare(rule, o.rule) : Integer.compare(dot, o.dot);
    }
  }

  static final int START = -7;

  final List<int[]> rules = new ArrayList<>();
  final List<Integer> text = new ArrayList<>();
  boolean refusedForStates;
  private final Set<Node> standing = new HashSet<>();
  private final Map<Node, List<Family>> families = new HashMap<>();
  private final Set<Node> used = new HashSet<>();
  private boolean endless;
  private final Map<Node, BigInteger> counts = new HashMap<>();
  private List<Set<Item>> states = new ArrayList<>();
  private List<int[]> leads = new ArrayList<>();
  private List<Set<Integer>> frontier = new ArrayList<>();

  Reference() {
    automaton();
    refresh();
  }

  // ---- changes ----

  int rule(int left, int a, int b, int c, int d) {
    refusedForStates = false;
    if (left < 0 || left > 5 || rules.size() >= 14) {
      return -1;
    }
    List<Integer> all = new ArrayList<>(List.of(left));
    for (int s : new int[] {a, b, c, d}) {
      if (s == -1) {
        break;
      }
      if (s < 0 || s > 9) {
        return -1;
      }
      all.add(s);
    }
    int[] rule = all.stream().mapToInt(Integer::intValue).toArray();
    for (int[] other : rules) {
      if (java.util.Arrays.equals(other, rule)) {
        return -1;
      }
    }
    rules.add(rule);
    automaton();
    refusedForStates = states.size() > 60;
    if (refusedForStates) {
      rules.remove(rules.size() - 1);
      automaton();
      return -1;
    }
    refresh();
    return rules.size() - 1;
  }

  boolean word(int w) {
    if (w < 6 || w > 9 || text.size() >= 10) {
      return false;
    }
    text.add(w);
    refresh();
    return true;
  }

  int erase() {
    int was = text.size();
    text.clear();
    refresh();
    return was;
  }

  int clear() {
    int was = rules.size();
    rules.clear();
    text.clear();
    automaton();
    refresh();
    return was;
  }

  // ---- answers ----

  boolean nullable(int m) {
    return standing.contains(new Node(m, 0, 0));
  }

  int states() {
    return states.size();
  }

  int leads(int s, int x) {
    return s < 0 || s >= states.size() || x < 0 || x > 9 ? -1 : leads.get(s)[x];
  }

  int reduces(int s) {
    if (s < 0 || s >= states.size()) {
      return -1;
    }
    int sum = 0;
    for (Item item : states.get(s)) {
      if (item.rule != START) {
        boolean all = true;
        int[] rule = rules.get(item.rule);
        for (int t = item.dot + 1; t < rule.length; t++) {
          all &= nullable(rule[t]);
        }
        sum += all ? 1 : 0;
      }
    }
    return sum;
  }

  boolean stands(int place, int s) {
    return place >= 0 && place <= text.size() && frontier.get(place).contains(s);
  }

  int frontier(int place) {
    return place < 0 || place > text.size() ? -1 : frontier.get(place).size();
  }

  boolean accepted() {
    return standing.contains(root());
  }

  boolean used(int m, int i, int j) {
    return used.contains(new Node(m, i, j));
  }

  int families(int m, int i, int j) {
    return used(m, i, j) ? families.get(new Node(m, i, j)).size() : 0;
  }

  boolean endless() {
    return endless;
  }

  int trees() {
    return endless ? -1 : count(root()).min(BigInteger.valueOf(1000000000)).intValue();
  }

  /** Tree k's row of rules, or null when there is none. */
  List<Integer> row(int k) {
    if (k < 0 || k >= trees()) {
      return null;
    }
    List<Integer> row = new ArrayList<>();
    write(root(), BigInteger.valueOf(k), row);
    return row;
  }

  // ---- parts ----

  private Node root() {
    return new Node(0, 0, text.size());
  }

  private boolean fits(int symbol, int i, int j) {
    if (symbol >= 6) {
      return j == i + 1 && text.get(i) == symbol;
    }
    return standing.contains(new Node(symbol, i, j));
  }

  private void refresh() {
    standing.clear();
    for (boolean more = true; more; ) {
      more = false;
      for (int m = 0; m < 6; m++) {
        for (int i = 0; i <= text.size(); i++) {
          for (int j = i; j <= text.size(); j++) {
            Node node = new Node(m, i, j);
            if (!standing.contains(node) && !familiesOf(node).isEmpty()) {
              standing.add(node);
              more = true;
            }
          }
        }
      }
    }
    families.clear();
    for (Node node : standing) {
      families.put(node, familiesOf(node));
    }
    used();
    endless = used.stream().anyMatch(node -> below(node).contains(node));
    counts.clear();
    frontier();
  }

  private List<Family> familiesOf(Node node) {
    List<Family> found = new ArrayList<>();
    for (int r = 0; r < rules.size(); r++) {
      if (rules.get(r)[0] == node.maker) {
        cuts(r, 1, node.i, node.j, new ArrayList<>(List.of(node.i)), found);
      }
    }
    return found;
  }

  private void cuts(int r, int t, int from, int end, List<Integer> cuts, List<Family> found) {
    int[] rule = rules.get(r);
    if (t == rule.length) {
      if (from == end) {
        found.add(new Family(r, List.copyOf(cuts)));
      }
      return;
    }
    for (int to = from; to <= end; to++) {
      if (fits(rule[t], from, to)) {
        cuts.add(to);
        cuts(r, t + 1, to, end, cuts, found);
        cuts.remove(cuts.size() - 1);
      }
    }
  }

  private List<Node> makers(Family family) {
    List<Node> nodes = new ArrayList<>();
    int[] rule = rules.get(family.rule);
    for (int t = 1; t < rule.length; t++) {
      if (rule[t] < 6) {
        nodes.add(new Node(rule[t], family.cuts.get(t - 1), family.cuts.get(t)));
      }
    }
    return nodes;
  }

  private Set<Node> below(Node top) {
    Set<Node> found = new HashSet<>();
    ArrayDeque<Node> open = new ArrayDeque<>(List.of(top));
    while (!open.isEmpty()) {
      for (Family family : families.get(open.poll())) {
        for (Node node : makers(family)) {
          if (found.add(node)) {
            open.add(node);
          }
        }
      }
    }
    return found;
  }

  private void used() {
    used.clear();
    if (accepted()) {
      used.add(root());
      used.addAll(below(root()));
    }
  }

  // ---- trees ----

  private BigInteger count(Node node) {
    if (!standing.contains(node)) {
      return BigInteger.ZERO;
    }
    BigInteger known = counts.get(node);
    if (known == null) {
      known = BigInteger.ZERO;
      for (Family family : families.get(node)) {
        known = known.add(count(family));
      }
      counts.put(node, known);
    }
    return known;
  }

  private BigInteger count(Family family) {
    BigInteger product = BigInteger.ONE;
    for (Node node : makers(family)) {
      product = product.multiply(count(node));
    }
    return product;
  }

  private void write(Node node, BigInteger k, List<Integer> row) {
    for (Family family : families.get(node)) {
      BigInteger all = count(family);
      if (k.compareTo(all) < 0) {
        row.add(family.rule);
        for (Node child : makers(family)) {
          all = all.divide(count(child));
          write(child, k.divide(all), row);
          k = k.mod(all);
        }
        return;
      }
      k = k.subtract(all);
    }
    throw new AssertionError();
  }

  /** Every tree of a node in the document's order, each as its row; for small forests only. */
  List<List<Integer>> everyRow() {
    return accepted() ? everyRow(root()) : List.of();
  }

  private List<List<Integer>> everyRow(Node node) {
    List<List<Integer>> rows = new ArrayList<>();
    for (Family family : families.get(node)) {
      List<List<Integer>> open = new ArrayList<>();
      open.add(List.of(family.rule));
      for (Node child : makers(family)) {
        List<List<Integer>> longer = new ArrayList<>();
        for (List<Integer> head : open) {
          for (List<Integer> tail : everyRow(child)) {
            List<Integer> both = new ArrayList<>(head);
            both.addAll(tail);
            longer.add(both);
          }
        }
        open = longer;
      }
      rows.addAll(open);
    }
    return rows;
  }

  // ---- the automaton ----

  private int[] right(int rule) {
    return rule == START ? new int[] {-1, 0} : rules.get(rule);
  }

  private Set<Item> closed(Set<Item> items) {
    Set<Item> all = new TreeSet<>(items);
    for (boolean more = true; more; ) {
      more = false;
      for (Item item : new ArrayList<>(all)) {
        int[] right = right(item.rule);
        for (int r = 0; r < rules.size(); r++) {
          if (item.dot + 1 < right.length && rules.get(r)[0] == right[item.dot + 1]) {
            more |= all.add(new Item(r, 0));
          }
        }
      }
    }
    return all;
  }

  private void automaton() {
    states = new ArrayList<>();
    leads = new ArrayList<>();
    Map<Set<Item>, Integer> numbers = new HashMap<>();
    states.add(closed(Set.of(new Item(START, 0))));
    numbers.put(states.get(0), 0);
    for (int s = 0; s < states.size(); s++) {
      int[] to = new int[10];
      for (int x = 0; x < 10; x++) {
        Set<Item> moved = new TreeSet<>();
        for (Item item : states.get(s)) {
          int[] right = right(item.rule);
          if (item.dot + 1 < right.length && right[item.dot + 1] == x) {
            moved.add(new Item(item.rule, item.dot + 1));
          }
        }
        to[x] = -1;
        if (!moved.isEmpty()) {
          Set<Item> state = closed(moved);
          if (!numbers.containsKey(state)) {
            numbers.put(state, states.size());
            states.add(state);
          }
          to[x] = numbers.get(state);
        }
      }
      leads.add(to);
    }
  }

  private void frontier() {
    frontier = new ArrayList<>();
    for (int j = 0; j <= text.size(); j++) {
      frontier.add(new TreeSet<>());
    }
    ArrayDeque<int[]> open = new ArrayDeque<>();
    frontier.get(0).add(0);
    open.add(new int[] {0, 0});
    while (!open.isEmpty()) {
      int[] at = open.poll();
      for (int x = 0; x < 10; x++) {
        int to = leads.get(at[1])[x];
        for (int j = at[0]; to >= 0 && j <= text.size(); j++) {
          if (fits(x, at[0], j) && frontier.get(j).add(to)) {
            open.add(new int[] {j, to});
          }
        }
      }
    }
  }
}
