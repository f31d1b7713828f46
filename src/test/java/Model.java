import java.util.ArrayDeque;
import java.util.ArrayList;
import java.util.Collections;
import java.util.Comparator;
import java.util.Deque;
import java.util.HashMap;
import java.util.List;
import java.util.Map;
import java.util.NoSuchElementException;
import java.util.TreeMap;
import java.util.regex.Matcher;
import java.util.regex.Pattern;

/** The document once more, written in other ways than the program, to be compared with it. */
final class Model {
  record Pass(int crossing, boolean over) {}

  record Player(int coins, int guess, int stake) {}

  /** A diagram as the list of its passes; the signs are kept by crossing. */
  static final class Knot {
    List<Pass> passes = new ArrayList<>();
    List<Boolean> signs = new ArrayList<>();

    Knot copy() {
      Knot copy = new Knot();
      copy.passes.addAll(passes);
      copy.signs.addAll(signs);
      return copy;
    }

    int size() {
      return signs.size();
    }

    int at(int crossing, boolean over) {
      return passes.indexOf(new Pass(crossing, over));
    }

    boolean adjacent(int p, int q) {
      int m = passes.size();
      return (p + 1) % m == q || (q + 1) % m == p;
    }

    boolean curl(int c) {
      return adjacent(at(c, true), at(c, false));
    }

    boolean poke(int a, int b) {
      return a != b && signs.get(a) != signs.get(b)
          && adjacent(at(a, true), at(b, true)) && adjacent(at(a, false), at(b, false));
    }

    void drop(int c) {
      List<Pass> kept = new ArrayList<>();
      for (Pass pass : passes) {
        if (pass.crossing() != c) {
          kept.add(new Pass(pass.crossing() - (pass.crossing() > c ? 1 : 0), pass.over()));
        }
      }
      passes = kept;
      signs.remove(c);
    }

    void flip(int c) {
      passes.replaceAll(p -> p.crossing() == c ? new Pass(c, !p.over()) : p);
      signs.set(c, !signs.get(c));
    }

    boolean reduceOnce() {
      for (int c = 0; c < size(); c++) {
        if (curl(c)) {
          drop(c);
          return true;
        }
      }
      for (int a = 0; a < size(); a++) {
        for (int b = a + 1; b < size(); b++) {
          if (poke(a, b)) {
            drop(b);
            drop(a);
            return true;
          }
        }
      }
      return false;
    }

    int reducedSize() {
      Knot copy = copy();
      while (copy.reduceOnce()) {
        continue;
      }
      return copy.size();
    }

    int writhe() {
      return signs.stream().mapToInt(s -> s ? 1 : -1).sum();
    }

    int arc(int position) {
      int arc = -1;
      for (int p = 0; p <= position; p++) {
        arc += passes.get(p).over() ? 0 : 1;
      }
      return arc < 0 ? size() - 1 : arc;
    }

    int colourings(int p) {
      int arcs = Math.max(1, size());
      int all = (int) Math.round(Math.pow(p, arcs));
      int[][] at = new int[size()][];
      for (int c = 0; c < size(); c++) {
        int under = at(c, false);
        at[c] = new int[] {arc(at(c, true)), arc(under),
            arc((under + passes.size() - 1) % passes.size())};
      }
      int count = 0;
      int[] colour = new int[arcs];
      for (int code = 0; code < all; code++) {
        for (int k = 0, rest = code; k < arcs; k++, rest /= p) {
          colour[k] = rest % p;
        }
        boolean good = true;
        for (int[] x : at) {
          good &= Math.floorMod(2 * colour[x[0]] - colour[x[1]] - colour[x[2]], p) == 0;
        }
        count += good ? 1 : 0;
      }
      return count;
    }

    /** Walks along the edges: an end of an edge is its number, doubled, plus 1 where it arrives. */
    int loops(int along) {
      int m = passes.size();
      if (m == 0) {
        return 1;
      }
      Map<Integer, Integer> joined = new HashMap<>();
      for (int c = 0; c < size(); c++) {
        int p = at(c, true);
        int q = at(c, false);
        int inP = 2 * ((p + m - 1) % m) + 1;
        int inQ = 2 * ((q + m - 1) % m) + 1;
        int[][] pairs = (along & 1 << c) != 0
            ? new int[][] {{inP, 2 * q}, {inQ, 2 * p}} : new int[][] {{inP, inQ}, {2 * p, 2 * q}};
        for (int[] pair : pairs) {
          joined.put(pair[0], pair[1]);
          joined.put(pair[1], pair[0]);
        }
      }
      boolean[] seen = new boolean[m];
      int loops = 0;
      for (int e = 0; e < m; e++) {
        if (!seen[e]) {
          loops++;
          int end = 2 * e;
          while (!seen[end / 2]) {
            seen[end / 2] = true;
            end = joined.get(end ^ 1);
          }
        }
      }
      return loops;
    }

    TreeMap<Integer, Integer> bracket() {
      TreeMap<Integer, Integer> sum = new TreeMap<>();
      for (int along = 0; along < 1 << size(); along++) {
        TreeMap<Integer, Integer> factor = new TreeMap<>(Map.of(0, 1));
        for (int c = 0; c < size(); c++) {
          boolean plus = ((along & 1 << c) != 0) == signs.get(c);
          factor = times(factor, Map.of(plus ? 1 : -1, 1));
        }
        for (int l = loops(along); l > 1; l--) {
          factor = times(factor, Map.of(2, -1, -2, -1));
        }
        factor.forEach((e, k) -> sum.merge(e, k, Integer::sum));
      }
      return sum;
    }

    TreeMap<Integer, Integer> normalized() {
      int w = writhe();
      TreeMap<Integer, Integer> all = times(bracket(), Map.of(-3 * w, w % 2 == 0 ? 1 : -1));
      all.values().removeIf(k -> k == 0);
      return all;
    }

    static TreeMap<Integer, Integer> times(Map<Integer, Integer> a, Map<Integer, Integer> b) {
      TreeMap<Integer, Integer> product = new TreeMap<>();
      a.forEach((e, k) -> b.forEach((f, l) -> product.merge(e + f, k * l, Integer::sum)));
      return product;
    }

    /** The smallest set of switches with the lowest sum, or -1. */
    int smallestSet() {
      List<Integer> sets = new ArrayList<>();
      for (int set = 0; set < 1 << size(); set++) {
        sets.add(set);
      }
      sets.sort(Comparator.comparing(Integer::bitCount).thenComparing(s -> s));
      for (int set : sets) {
        Knot copy = copy();
        for (int c = 0; c < size(); c++) {
          if ((set & 1 << c) != 0) {
            copy.flip(c);
          }
        }
        if (copy.reducedSize() == 0) {
          return set;
        }
      }
      return -1;
    }
  }

  record Moment(Knot knot, List<Player> players, int house) {}

  private Knot knot = new Knot();
  private List<Player> players = new ArrayList<>();
  private int house;
  private Deque<Moment> past = new ArrayDeque<>();
  private Moment snapshot;
  private String buffer = "";
  private String output = "";
  private int error = -1;
  private int failed = -1;
  private boolean inScript;

  private Moment moment() {
    return new Moment(knot.copy(), new ArrayList<>(players), house);
  }

  private void back(Moment moment) {
    knot = moment.knot().copy();
    players = new ArrayList<>(moment.players());
    house = moment.house();
  }

  private void change() {
    if (!inScript) {
      note(moment());
    }
  }

  private void note(Moment before) {
    past.push(before);
    while (past.size() > 8) {
      past.removeLast();
    }
  }

  private void index(boolean good) {
    if (!good) {
      throw new IndexOutOfBoundsException();
    }
  }

  private void argument(boolean good) {
    if (!good) {
      throw new IllegalArgumentException();
    }
  }

  private void state(boolean good) {
    if (!good) {
      throw new IllegalStateException();
    }
  }

  private void support(boolean good) {
    if (!good) {
      throw new UnsupportedOperationException();
    }
  }

  private void element(boolean good) {
    if (!good) {
      throw new NoSuchElementException();
    }
  }

  private boolean within(int value, int end) {
    return 0 <= value && value < end;
  }

  public int addCurl(int place, boolean isPositive, boolean isOverFirst) {
    index(within(place, knot.passes.size() + 1));
    state(knot.size() < 7);
    change();
    int c = knot.size();
    knot.passes.addAll(place, List.of(new Pass(c, isOverFirst), new Pass(c, !isOverFirst)));
    knot.signs.add(isPositive);
    return c;
  }

  public int removeCurl(int c) {
    index(within(c, knot.size()));
    support(knot.curl(c));
    change();
    knot.drop(c);
    return knot.size();
  }

  public int addPoke(int place, int other, boolean isParallel, boolean isPositive) {
    int m = knot.passes.size();
    index(within(place, m + 1) && within(other, m + 1));
    state(knot.size() <= 5);
    change();
    int c = knot.size();
    List<Pass> made = new ArrayList<>();
    for (int p = 0; p <= m; p++) {
      if (p == place) {
        made.add(new Pass(c, true));
        made.add(new Pass(c + 1, true));
      }
      if (p == other) {
        made.add(new Pass(isParallel ? c : c + 1, false));
        made.add(new Pass(isParallel ? c + 1 : c, false));
      }
      if (p < m) {
        made.add(knot.passes.get(p));
      }
    }
    knot.passes = made;
    knot.signs.add(isPositive);
    knot.signs.add(!isPositive);
    return c;
  }

  public int removePoke(int a, int b) {
    index(within(a, knot.size()) && within(b, knot.size()));
    support(knot.poke(a, b));
    change();
    knot.drop(Math.max(a, b));
    knot.drop(Math.min(a, b));
    return knot.size();
  }

  public boolean switchCrossing(int c) {
    index(within(c, knot.size()));
    change();
    knot.flip(c);
    return knot.signs.get(c);
  }

  public int mirror() {
    change();
    for (int c = 0; c < knot.size(); c++) {
      knot.flip(c);
    }
    return knot.writhe();
  }

  public int reverse() {
    change();
    Collections.reverse(knot.passes);
    return knot.size() == 0 ? -1 : knot.passes.get(0).crossing();
  }

  public int turn(int position) {
    index(within(position, knot.passes.size()));
    change();
    Collections.rotate(knot.passes, -position);
    return knot.passes.get(0).crossing();
  }

  public int reduce() {
    change();
    int before = knot.size();
    while (knot.reduceOnce()) {
      continue;
    }
    return before - knot.size();
  }

  public int crossingCount() {
    return knot.size();
  }

  public int crossingAt(int position) {
    index(within(position, knot.passes.size()));
    return knot.passes.get(position).crossing();
  }

  public boolean isOver(int position) {
    index(within(position, knot.passes.size()));
    return knot.passes.get(position).over();
  }

  public boolean isPositive(int c) {
    index(within(c, knot.size()));
    return knot.signs.get(c);
  }

  public int overPosition(int c) {
    index(within(c, knot.size()));
    return knot.at(c, true);
  }

  public int underPosition(int c) {
    index(within(c, knot.size()));
    return knot.at(c, false);
  }

  public int writhe() {
    return knot.writhe();
  }

  public boolean isCurl(int c) {
    index(within(c, knot.size()));
    return knot.curl(c);
  }

  public boolean isPoke(int a, int b) {
    index(within(a, knot.size()) && within(b, knot.size()));
    return knot.poke(a, b);
  }

  public boolean isAlternating() {
    boolean even = true;
    boolean odd = true;
    for (int p = 0; p < knot.passes.size(); p++) {
      even &= knot.passes.get(p).over() == (p % 2 == 0);
      odd &= knot.passes.get(p).over() == (p % 2 == 1);
    }
    return even || odd;
  }

  public int reducedCrossings() {
    return knot.reducedSize();
  }

  public int crossingByChord(int rank) {
    element(within(rank, knot.size()));
    List<Integer> order = new ArrayList<>();
    for (int c = 0; c < knot.size(); c++) {
      order.add(c);
    }
    order.sort(Comparator.comparing(this::between));
    return order.get(rank);
  }

  private int between(int c) {
    int low = Math.min(knot.at(c, true), knot.at(c, false));
    int high = Math.max(knot.at(c, true), knot.at(c, false));
    int inside = high - low - 1;
    return Math.min(inside, knot.passes.size() - 2 - inside);
  }

  public int arcCount() {
    return Math.max(1, (int) knot.passes.stream().filter(p -> !p.over()).count());
  }

  public int arcAt(int position) {
    index(within(position, knot.passes.size()));
    return knot.arc(position);
  }

  public int colourings(int prime) {
    argument(prime == 3 || prime == 5 || prime == 7);
    return knot.colourings(prime);
  }

  public int colouringsByTrying() {
    return knot.colourings(3);
  }

  public int loops(int along) {
    argument(within(along, 1 << knot.size()));
    return knot.loops(along);
  }

  public int bracketCoefficient(int exponent) {
    argument(-50 <= exponent && exponent <= 50);
    return knot.bracket().getOrDefault(exponent, 0);
  }

  public int bracketCoefficientByResolving(int exponent) {
    return bracketCoefficient(exponent);
  }

  public int coefficient(int exponent) {
    argument(-50 <= exponent && exponent <= 50);
    return knot.normalized().getOrDefault(exponent, 0);
  }

  public int lowestExponent() {
    return knot.normalized().firstKey();
  }

  public int highestExponent() {
    return knot.normalized().lastKey();
  }

  public boolean isPolynomialTrivial() {
    return knot.normalized().equals(Map.of(0, 1));
  }

  public double value(boolean isTwo) {
    double sum = 0;
    for (Map.Entry<Integer, Integer> term : knot.normalized().entrySet()) {
      sum += (double) term.getValue() * Math.pow(isTwo ? 2.0 : 0.5, term.getKey());
    }
    return sum;
  }

  public boolean isPlainlyUnknotted() {
    return knot.reducedSize() == 0;
  }

  public int switches() {
    int set = knot.smallestSet();
    element(set >= 0);
    return Integer.bitCount(set);
  }

  public int switchesByDepth() {
    return switches();
  }

  public int firstSwitch() {
    int set = knot.smallestSet();
    element(set >= 0);
    return set == 0 ? -1 : Integer.numberOfTrailingZeros(set);
  }

  public int addPlayer() {
    state(players.size() < 4);
    change();
    players.add(new Player(100, -1, 0));
    return players.size() - 1;
  }

  public int bet(int player, int guess, int stake) {
    index(within(player, players.size()));
    argument(0 <= guess && guess <= 7 && 1 <= stake && stake <= 99);
    state(players.get(player).stake() == 0);
    int left = players.get(player).coins() - stake;
    support(left >= 0);
    change();
    players.set(player, new Player(left, guess, stake));
    return left;
  }

  public int settle() {
    int pot = pot();
    state(pot > 0);
    int set = knot.smallestSet();
    element(set >= 0);
    change();
    int right = (int) players.stream()
        .filter(p -> p.stake() > 0 && p.guess() == Integer.bitCount(set)).count();
    int each = right == 0 ? 0 : pot / right;
    players.replaceAll(p -> new Player(
        p.coins() + (p.stake() > 0 && p.guess() == Integer.bitCount(set) ? each : 0), -1, 0));
    house += pot - each * right;
    return right;
  }

  public int playerCount() {
    return players.size();
  }

  public int coins(int player) {
    index(within(player, players.size()));
    return players.get(player).coins();
  }

  public int guess(int player) {
    index(within(player, players.size()));
    element(players.get(player).stake() > 0);
    return players.get(player).guess();
  }

  public int pot() {
    return players.stream().mapToInt(Player::stake).sum();
  }

  public int house() {
    return house;
  }

  public int playerByCoins(int rank) {
    element(within(rank, players.size()));
    List<Integer> order = new ArrayList<>();
    for (int p = 0; p < players.size(); p++) {
      order.add(p);
    }
    order.sort(Comparator.comparing(p -> -players.get(p).coins()));
    return order.get(rank);
  }

  public float stakeShare(int player) {
    index(within(player, players.size()));
    if (pot() == 0) {
      throw new ArithmeticException();
    }
    return (float) players.get(player).stake() / (float) pot();
  }

  public boolean isConsistent() {
    return true;
  }

  public int renderDiagram() {
    List<String> words = new ArrayList<>();
    for (Pass p : knot.passes) {
      words.add((p.over() ? "o" : "u") + p.crossing() + (knot.signs.get(p.crossing()) ? "+" : "-"));
    }
    output = String.join(" ", words);
    return output.length();
  }

  public int renderPolynomial() {
    List<String> words = new ArrayList<>();
    knot.normalized().forEach((e, k) -> words.add(k + "a" + e));
    output = String.join(" ", words);
    return output.length();
  }

  public char outputAt(int index) {
    index(within(index, output.length()));
    return output.charAt(index);
  }

  public int type(char character) {
    argument(character >= 32 && character <= 126);
    state(buffer.length() < 60);
    buffer += character;
    return buffer.length();
  }

  private static final String NUMBER = "[0-9][0-9]?";
  private static final String COMMAND = "(curl " + NUMBER + "[+-][ou]|uncurl [0-9]|poke " + NUMBER
      + " " + NUMBER + "[=x][+-]|unpoke [0-9] [0-9]|switch [0-9]|mirror|reverse|turn " + NUMBER
      + "|reduce|player|bet [0-9] [0-9]:" + NUMBER + "|settle)";
  private static final Pattern FORM = Pattern.compile(COMMAND + "(;" + COMMAND + ")*");

  /** The length of the longest beginning that some script of the form has. */
  static int errorOf(String script) {
    for (int end = 1; end <= script.length(); end++) {
      Matcher matcher = FORM.matcher(script.substring(0, end));
      if (!matcher.matches() && !matcher.hitEnd()) {
        return end - 1;
      }
    }
    return script.length();
  }

  public int runScript() {
    String script = buffer;
    buffer = "";
    if (!FORM.matcher(script).matches()) {
      error = errorOf(script);
      throw new IllegalArgumentException();
    }
    Moment before = moment();
    String[] commands = script.split(";");
    inScript = true;
    for (int k = 0; k < commands.length; k++) {
      try {
        execute(commands[k]);
      } catch (RuntimeException e) {
        failed = k;
        back(before);
        inScript = false;
        throw new IllegalStateException();
      }
    }
    inScript = false;
    note(before);
    return commands.length;
  }

  private void execute(String command) {
    List<Integer> n = new ArrayList<>();
    Matcher digits = Pattern.compile("[0-9]+").matcher(command);
    while (digits.find()) {
      n.add(Integer.valueOf(digits.group()));
    }
    switch (command.split(" ")[0]) {
      case "curl" -> addCurl(n.get(0), command.contains("+"), command.endsWith("o"));
      case "uncurl" -> removeCurl(n.get(0));
      case "poke" -> addPoke(n.get(0), n.get(1), command.contains("="), command.endsWith("+"));
      case "unpoke" -> removePoke(n.get(0), n.get(1));
      case "switch" -> switchCrossing(n.get(0));
      case "mirror" -> mirror();
      case "reverse" -> reverse();
      case "turn" -> turn(n.get(0));
      case "reduce" -> reduce();
      case "player" -> addPlayer();
      case "bet" -> bet(n.get(0), n.get(1), n.get(2));
      default -> settle();
    }
  }

  public int errorPosition() {
    element(error >= 0);
    return error;
  }

  public int failedCommand() {
    element(failed >= 0);
    return failed;
  }

  public int undo() {
    element(!past.isEmpty());
    back(past.pop());
    return past.size();
  }

  public int save() {
    snapshot = moment();
    return knot.size();
  }

  public int restore() {
    state(snapshot != null);
    back(snapshot);
    past.clear();
    return knot.size();
  }
}
