import java.util.Arrays;
import java.util.NoSuchElementException;

/**
 * A laboratory for knot diagrams with moves, colourings, a polynomial, bets on the number of
 * switches, scripts, undo and a snapshot.
 */
public final class KnotLaboratory {
  private static final int MOST_CROSSINGS = 7;
  private static final int MOST_PASSES = 14;
  private static final int MOST_PLAYERS = 4;
  private static final int MOST_CHANGES = 8;
  private static final int LONGEST_SCRIPT = 60;
  private static final int LONGEST_OUTPUT = 256;
  private static final int HIGHEST_EXPONENT = 50;
  private static final int COINS_AT_START = 100;
  private static final int NONE_YET = -1;

  private final State state;
  private final Diagram diagram;
  private final Bets bets;
  private final State snapshot;
  private final Diagram scratch;
  private final History history;
  private final Colouring colouring;
  private final Bracket bracket;
  private final SwitchSearch search;
  private final Script script;
  private final Output output;
  private boolean hasSnapshot;
  private int latestError;
  private int latestFailure;

  public KnotLaboratory() {
    state = new State();
    diagram = state.diagram;
    bets = state.bets;
    snapshot = new State();
    scratch = new Diagram();
    history = new History();
    colouring = new Colouring();
    bracket = new Bracket();
    search = new SwitchSearch();
    script = new Script();
    output = new Output();
    latestError = NONE_YET;
    latestFailure = NONE_YET;
  }

  // Moves.

  public int addCurl(int place, boolean isPositive, boolean isOverFirst)
      throws IndexOutOfBoundsException, IllegalStateException {
    history.stage(state);
    finishChange(diagram.putCurl(place, isPositive, isOverFirst));
    return diagram.count - 1;
  }

  public int removeCurl(int crossing)
      throws IndexOutOfBoundsException, UnsupportedOperationException {
    history.stage(state);
    finishChange(diagram.takeCurl(crossing));
    return diagram.count;
  }

  public int addPoke(int place, int other, boolean isParallel, boolean isPositive)
      throws IndexOutOfBoundsException, IllegalStateException {
    history.stage(state);
    finishChange(diagram.putPoke(place, other, isParallel, isPositive));
    return diagram.count - 2;
  }

  public int removePoke(int first, int second)
      throws IndexOutOfBoundsException, UnsupportedOperationException {
    history.stage(state);
    finishChange(diagram.takePoke(first, second));
    return diagram.count;
  }

  public boolean switchCrossing(int crossing) throws IndexOutOfBoundsException {
    history.stage(state);
    finishChange(diagram.switchOne(crossing));
    return diagram.positive[crossing];
  }

  public int mirror() {
    history.stage(state);
    finishChange(diagram.switchAll());
    return diagram.signSum();
  }

  public int reverse() {
    history.stage(state);
    finishChange(diagram.turnBack());
    return diagram.crossingOf(0);
  }

  public int turn(int position) throws IndexOutOfBoundsException {
    history.stage(state);
    finishChange(diagram.turnTo(position));
    return diagram.crossingOf(0);
  }

  public int reduce() {
    int before = diagram.count;
    history.stage(state);
    finishChange(diagram.simplify());
    return before - diagram.count;
  }

  // Diagram.

  public int crossingCount() {
    return diagram.count;
  }

  public int crossingAt(int position) throws IndexOutOfBoundsException {
    requirePosition(position);
    return diagram.crossingOf(position);
  }

  public boolean isOver(int position) throws IndexOutOfBoundsException {
    requirePosition(position);
    return diagram.passesOver(position);
  }

  public boolean isPositive(int crossing) throws IndexOutOfBoundsException {
    requireCrossing(crossing);
    return diagram.positive[crossing];
  }

  public int overPosition(int crossing) throws IndexOutOfBoundsException {
    requireCrossing(crossing);
    return diagram.overAt[crossing];
  }

  public int underPosition(int crossing) throws IndexOutOfBoundsException {
    requireCrossing(crossing);
    return diagram.underAt[crossing];
  }

  public int writhe() {
    return diagram.signSum();
  }

  public boolean isCurl(int crossing) throws IndexOutOfBoundsException {
    requireCrossing(crossing);
    return diagram.curls(crossing);
  }

  public boolean isPoke(int first, int second) throws IndexOutOfBoundsException {
    requireCrossing(first);
    requireCrossing(second);
    return diagram.pokes(first, second);
  }

  public boolean isAlternating() {
    return diagram.alternates();
  }

  public int reducedCrossings() {
    scratch.copyFrom(diagram);
    scratch.simplify();
    return scratch.count;
  }

  public int crossingByChord(int rank) throws NoSuchElementException {
    if (!diagram.hasCrossing(rank)) {
      throw new NoSuchElementException("no such rank");
    }
    return diagram.crossingOfRank(rank);
  }

  // Arcs and colourings.

  public int arcCount() {
    return diagram.arcs();
  }

  public int arcAt(int position) throws IndexOutOfBoundsException {
    requirePosition(position);
    return diagram.arcOf(position);
  }

  public int colourings(int prime) throws IllegalArgumentException {
    if (prime != 3 && prime != 5 && prime != 7) {
      throw new IllegalArgumentException("the number of colours is not 3, 5 or 7");
    }
    return colouring.countByElimination(diagram, prime);
  }

  public int colouringsByTrying() {
    return colouring.countByTrying(diagram);
  }

  // States and polynomials.

  public int loops(int along) throws IllegalArgumentException {
    if (along < 0 || along >= diagram.sets()) {
      throw new IllegalArgumentException("no such set of crossings");
    }
    return bracket.loopsOf(diagram, along);
  }

  public int bracketCoefficient(int exponent) throws IllegalArgumentException {
    requireExponent(exponent);
    bracket.sumStates(diagram);
    return valueAt(bracket.byStates, exponent);
  }

  public int bracketCoefficientByResolving(int exponent) throws IllegalArgumentException {
    requireExponent(exponent);
    bracket.resolveAll(diagram);
    return valueAt(bracket.byResolving, exponent);
  }

  public int coefficient(int exponent) throws IllegalArgumentException {
    requireExponent(exponent);
    bracket.normalize(diagram);
    return valueAt(bracket.normalized, exponent);
  }

  public int lowestExponent() {
    bracket.normalize(diagram);
    for (int exponent = -HIGHEST_EXPONENT; exponent < HIGHEST_EXPONENT; exponent++) {
      if (valueAt(bracket.normalized, exponent) != 0) {
        return exponent;
      }
    }
    return HIGHEST_EXPONENT;
  }

  public int highestExponent() {
    bracket.normalize(diagram);
    for (int exponent = HIGHEST_EXPONENT; exponent > -HIGHEST_EXPONENT; exponent--) {
      if (valueAt(bracket.normalized, exponent) != 0) {
        return exponent;
      }
    }
    return -HIGHEST_EXPONENT;
  }

  public boolean isPolynomialTrivial() {
    bracket.normalize(diagram);
    for (int exponent = -HIGHEST_EXPONENT; exponent <= HIGHEST_EXPONENT; exponent++) {
      if (valueAt(bracket.normalized, exponent) != (exponent == 0 ? 1 : 0)) {
        return false;
      }
    }
    return true;
  }

  public double value(boolean isTwo) {
    bracket.normalize(diagram);
    double base = isTwo ? 2.0 : 0.5;
    double power = 1.0;
    for (int step = 0; step < HIGHEST_EXPONENT; step++) {
      power = power / base;
    }
    double sum = 0.0;
    for (int exponent = -HIGHEST_EXPONENT; exponent <= HIGHEST_EXPONENT; exponent++) {
      sum = sum + (double) valueAt(bracket.normalized, exponent) * power;
      power = power * base;
    }
    return sum;
  }

  // Switches.

  public boolean isPlainlyUnknotted() {
    return reducedCrossings() == 0;
  }

  public int switches() throws NoSuchElementException {
    return requireSwitches(search.fewest(diagram));
  }

  public int switchesByDepth() throws NoSuchElementException {
    return requireSwitches(search.fewestByDepth(diagram));
  }

  public int firstSwitch() throws NoSuchElementException {
    requireSwitches(search.fewest(diagram));
    for (int crossing = 0; crossing < MOST_CROSSINGS; crossing++) {
      if (isInSet(crossing, search.smallestSet)) {
        return crossing;
      }
    }
    return -1;
  }

  // Bets.

  public int addPlayer() throws IllegalStateException {
    history.stage(state);
    finishChange(bets.enter());
    return bets.count - 1;
  }

  public int bet(int player, int guess, int stake)
      throws IndexOutOfBoundsException, IllegalArgumentException, IllegalStateException,
      UnsupportedOperationException {
    history.stage(state);
    finishChange(bets.wager(player, guess, stake));
    return bets.coins[player];
  }

  public int settle() throws IllegalStateException, NoSuchElementException {
    int switches = search.fewest(diagram);
    int winners = bets.winners(switches);
    history.stage(state);
    finishChange(bets.pay(switches));
    return winners;
  }

  public int playerCount() {
    return bets.count;
  }

  public int coins(int player) throws IndexOutOfBoundsException {
    requirePlayer(player);
    return bets.coins[player];
  }

  public int guess(int player) throws IndexOutOfBoundsException, NoSuchElementException {
    requirePlayer(player);
    if (bets.stakes[player] == 0) {
      throw new NoSuchElementException("the player has no open bet");
    }
    return bets.guesses[player];
  }

  public int pot() {
    return bets.allStakes();
  }

  public int house() {
    return bets.houseCoins;
  }

  public int playerByCoins(int rank) throws NoSuchElementException {
    if (!bets.hasPlayer(rank)) {
      throw new NoSuchElementException("no such rank");
    }
    return bets.playerOfRank(rank);
  }

  public float stakeShare(int player) throws IndexOutOfBoundsException, ArithmeticException {
    requirePlayer(player);
    int all = bets.allStakes();
    if (all == 0) {
      throw new ArithmeticException("the pot is empty");
    }
    return (float) bets.stakes[player] / (float) all;
  }

  public boolean isConsistent() {
    bracket.sumStates(diagram);
    bracket.resolveAll(diagram);
    int colourings = colouring.countByElimination(diagram, 3);
    return bracket.waysAgree()
        && colourings == colouring.countByTrying(diagram)
        && colourings % 3 == 0
        && search.fewest(diagram) == search.fewestByDepth(diagram)
        && bets.allCoins() == COINS_AT_START * bets.count;
  }

  // Output and scripts.

  public int renderDiagram() {
    output.clear();
    for (int position = 0; position < diagram.passes(); position++) {
      if (position > 0) {
        output.put(' ');
      }
      output.put(diagram.passesOver(position) ? 'o' : 'u');
      output.putNumber(diagram.crossingOf(position));
      output.put(diagram.positiveAt(position) ? '+' : '-');
    }
    return output.length;
  }

  public int renderPolynomial() {
    bracket.normalize(diagram);
    output.clear();
    for (int exponent = -HIGHEST_EXPONENT; exponent <= HIGHEST_EXPONENT; exponent++) {
      int coefficient = valueAt(bracket.normalized, exponent);
      if (coefficient != 0) {
        if (output.length > 0) {
          output.put(' ');
        }
        output.putNumber(coefficient);
        output.put('a');
        output.putNumber(exponent);
      }
    }
    return output.length;
  }

  public char outputAt(int index) throws IndexOutOfBoundsException {
    if (index < 0 || index >= output.length) {
      throw new IndexOutOfBoundsException("no such index");
    }
    return output.text[index];
  }

  public int type(char character) throws IllegalArgumentException, IllegalStateException {
    if (character < 32 || character > 126) {
      throw new IllegalArgumentException("the character code is not between 32 and 126");
    }
    if (script.length >= LONGEST_SCRIPT) {
      throw new IllegalStateException("the script buffer is full");
    }
    script.append(character);
    return script.length;
  }

  public int runScript() throws IllegalArgumentException, IllegalStateException {
    int error = script.firstError();
    if (error != Script.NO_ERROR) {
      latestError = error;
      script.clear();
      throw new IllegalArgumentException("the script does not have the required form");
    }
    history.stage(state);
    int done = 0;
    script.rewind();
    while (done < LONGEST_SCRIPT && script.advance()) {
      if (execute(script.command, script.arguments) != Refusal.NONE) {
        latestFailure = done;
        script.clear();
        state.copyFrom(history.staged());
        throw new IllegalStateException("a command failed");
      }
      done++;
    }
    script.clear();
    history.keep();
    return done;
  }

  public int errorPosition() throws NoSuchElementException {
    if (latestError == NONE_YET) {
      throw new NoSuchElementException("every script had the required form");
    }
    return latestError;
  }

  public int failedCommand() throws NoSuchElementException {
    if (latestFailure == NONE_YET) {
      throw new NoSuchElementException("no command of a script failed");
    }
    return latestFailure;
  }

  public int undo() throws NoSuchElementException {
    if (history.kept == 0) {
      throw new NoSuchElementException("nothing to undo");
    }
    state.copyFrom(history.takeBack());
    return history.kept;
  }

  public int save() {
    snapshot.copyFrom(state);
    hasSnapshot = true;
    return diagram.count;
  }

  public int restore() throws IllegalStateException {
    if (!hasSnapshot) {
      throw new IllegalStateException("no snapshot");
    }
    state.copyFrom(snapshot);
    history.forget();
    return diagram.count;
  }

  // Checks and helpers of the calls above.

  private void finishChange(Refusal refusal) {
    raise(refusal);
    history.keep();
  }

  private static void raise(Refusal refusal) {
    if (refusal == Refusal.INDEX) {
      throw new IndexOutOfBoundsException("no such place, position, crossing or player");
    }
    if (refusal == Refusal.ARGUMENT) {
      throw new IllegalArgumentException("the guess or the stake is out of its range");
    }
    if (refusal == Refusal.STATE) {
      throw new IllegalStateException("the state does not allow it");
    }
    if (refusal == Refusal.UNSUPPORTED) {
      throw new UnsupportedOperationException("no curl, no poke or too few coins");
    }
    if (refusal == Refusal.ELEMENT) {
      throw new NoSuchElementException("no switches unknot the diagram");
    }
  }

  private void requirePosition(int position) {
    if (!diagram.hasPosition(position)) {
      throw new IndexOutOfBoundsException("no such position");
    }
  }

  private void requireCrossing(int crossing) {
    if (!diagram.hasCrossing(crossing)) {
      throw new IndexOutOfBoundsException("no such crossing");
    }
  }

  private void requirePlayer(int player) {
    if (!bets.hasPlayer(player)) {
      throw new IndexOutOfBoundsException("no such player");
    }
  }

  private static void requireExponent(int exponent) {
    if (exponent < -HIGHEST_EXPONENT || exponent > HIGHEST_EXPONENT) {
      throw new IllegalArgumentException("the exponent is not between -50 and 50");
    }
  }

  private static int requireSwitches(int found) {
    if (found == SwitchSearch.NOTHING) {
      throw new NoSuchElementException("no switches unknot the diagram");
    }
    return found;
  }

  private static boolean isInSet(int crossing, int set) {
    return (set >> crossing & 1) == 1;
  }

  /** The coefficient at an exponent, which is 0 outside of the row. */
  private static int valueAt(int[] polynomial, int exponent) {
    int index = exponent + HIGHEST_EXPONENT;
    return index < 0 || index >= polynomial.length ? 0 : polynomial[index];
  }

  private Refusal execute(Command command, int[] given) {
    if (command == null) {
      return Refusal.ARGUMENT;
    }
    switch (command) {
      case CURL:
        return diagram.putCurl(given[0], given[1] == 1, given[2] == 1);
      case UNCURL:
        return diagram.takeCurl(given[0]);
      case POKE:
        return diagram.putPoke(given[0], given[1], given[2] == 1, given[3] == 1);
      case UNPOKE:
        return diagram.takePoke(given[0], given[1]);
      case SWITCH:
        return diagram.switchOne(given[0]);
      case MIRROR:
        return diagram.switchAll();
      case REVERSE:
        return diagram.turnBack();
      case TURN:
        return diagram.turnTo(given[0]);
      case REDUCE:
        return diagram.simplify();
      case PLAYER:
        return bets.enter();
      case BET:
        return bets.wager(given[0], given[1], given[2]);
      case SETTLE:
        return bets.pay(search.fewest(diagram));
      default:
        return Refusal.ARGUMENT;
    }
  }

  /** Why an operation was not carried out; the face throws the exception that belongs to it. */
  private enum Refusal {
    NONE, INDEX, ARGUMENT, STATE, UNSUPPORTED, ELEMENT
  }

  /** The commands of a script with their words and the forms of what follows the words. */
  private enum Command {
    CURL("curl ", "nsp"),
    UNCURL("uncurl ", "d"),
    POKE("poke ", "n nws"),
    UNPOKE("unpoke ", "d d"),
    SWITCH("switch ", "d"),
    MIRROR("mirror", ""),
    REVERSE("reverse", ""),
    TURN("turn ", "n"),
    REDUCE("reduce", ""),
    PLAYER("player", ""),
    BET("bet ", "d d:n"),
    SETTLE("settle", "");

    private final String word;
    private final String form;

    Command(String word, String form) {
      this.word = word;
      this.form = form;
    }
  }

  /** A diagram, kept as the positions of the two passes of each crossing and its sign. */
  private static final class Diagram {
    final int[] overAt = new int[MOST_CROSSINGS];
    final int[] underAt = new int[MOST_CROSSINGS];
    final boolean[] positive = new boolean[MOST_CROSSINGS];
    int count;

    void copyFrom(Diagram other) {
      count = other.count;
      for (int crossing = 0; crossing < count; crossing++) {
        overAt[crossing] = other.overAt[crossing];
        underAt[crossing] = other.underAt[crossing];
        positive[crossing] = other.positive[crossing];
      }
    }

    void copySwitched(Diagram other, int set) {
      copyFrom(other);
      for (int crossing = 0; crossing < count; crossing++) {
        if (isInSet(crossing, set)) {
          exchange(crossing);
        }
      }
    }

    int passes() {
      return 2 * count;
    }

    int sets() {
      return 1 << count;
    }

    int arcs() {
      return count == 0 ? 1 : count;
    }

    boolean hasPlace(int place) {
      return place >= 0 && place <= 2 * count;
    }

    boolean hasPosition(int position) {
      return position >= 0 && position < 2 * count;
    }

    boolean hasCrossing(int crossing) {
      return crossing >= 0 && crossing < count;
    }

    int crossingOf(int position) {
      for (int crossing = 0; crossing < count; crossing++) {
        if (overAt[crossing] == position || underAt[crossing] == position) {
          return crossing;
        }
      }
      return -1;
    }

    boolean passesOver(int position) {
      for (int crossing = 0; crossing < count; crossing++) {
        if (overAt[crossing] == position) {
          return true;
        }
      }
      return false;
    }

    boolean positiveAt(int position) {
      int crossing = crossingOf(position);
      return hasCrossing(crossing) && positive[crossing];
    }

    int before(int position) {
      return position == 0 ? 2 * count - 1 : position - 1;
    }

    int after(int position) {
      return position == 2 * count - 1 ? 0 : position + 1;
    }

    int arcOf(int position) {
      int begun = 0;
      for (int crossing = 0; crossing < count; crossing++) {
        if (underAt[crossing] <= position) {
          begun++;
        }
      }
      return begun == 0 ? count - 1 : begun - 1;
    }

    int signSum() {
      int sum = 0;
      for (int crossing = 0; crossing < count; crossing++) {
        sum += positive[crossing] ? 1 : -1;
      }
      return sum;
    }

    boolean alternates() {
      for (int crossing = 0; crossing < count; crossing++) {
        if (passesOver(after(overAt[crossing]))) {
          return false;
        }
      }
      return true;
    }

    boolean curls(int crossing) {
      return distance(overAt[crossing], underAt[crossing]) == 1;
    }

    boolean pokes(int first, int second) {
      return positive[first] != positive[second]
          && distance(overAt[first], overAt[second]) == 1
          && distance(underAt[first], underAt[second]) == 1;
    }

    /** The number of steps on the shorter way around the circle. */
    private int distance(int one, int other) {
      int steps = one > other ? one - other : other - one;
      int rest = 2 * count - steps;
      return steps < rest ? steps : rest;
    }

    int crossingOfRank(int rank) {
      for (int crossing = 0; crossing < count; crossing++) {
        if (rankOf(crossing) == rank) {
          return crossing;
        }
      }
      return -1;
    }

    private int rankOf(int crossing) {
      int own = distance(overAt[crossing], underAt[crossing]);
      int rank = 0;
      for (int other = 0; other < count; other++) {
        int chord = distance(overAt[other], underAt[other]);
        if (chord < own || chord == own && other < crossing) {
          rank++;
        }
      }
      return rank;
    }

    Refusal putCurl(int place, boolean isPlus, boolean isOverFirst) {
      if (!hasPlace(place)) {
        return Refusal.INDEX;
      }
      if (count > MOST_CROSSINGS - 1) {
        return Refusal.STATE;
      }
      widen(place);
      append(isOverFirst ? place : place + 1, isOverFirst ? place + 1 : place, isPlus);
      return Refusal.NONE;
    }

    Refusal putPoke(int place, int other, boolean isParallel, boolean isPlus) {
      if (!hasPlace(place) || !hasPlace(other)) {
        return Refusal.INDEX;
      }
      if (count > MOST_CROSSINGS - 2) {
        return Refusal.STATE;
      }
      // The later place is widened first, so that the earlier one still counts as before.
      widen(Math.max(place, other));
      widen(Math.min(place, other));
      int over = place > other ? place + 2 : place;
      int under = place > other ? other : other + 2;
      append(over, isParallel ? under : under + 1, isPlus);
      append(over + 1, isParallel ? under + 1 : under, !isPlus);
      return Refusal.NONE;
    }

    /** Makes room for two passes at a place. */
    private void widen(int place) {
      for (int crossing = 0; crossing < count; crossing++) {
        overAt[crossing] += overAt[crossing] >= place ? 2 : 0;
        underAt[crossing] += underAt[crossing] >= place ? 2 : 0;
      }
    }

    private void append(int over, int under, boolean isPlus) {
      overAt[count] = over;
      underAt[count] = under;
      positive[count] = isPlus;
      count++;
    }

    Refusal takeCurl(int crossing) {
      if (!hasCrossing(crossing)) {
        return Refusal.INDEX;
      }
      if (!curls(crossing)) {
        return Refusal.UNSUPPORTED;
      }
      remove(crossing);
      return Refusal.NONE;
    }

    Refusal takePoke(int first, int second) {
      if (!hasCrossing(first) || !hasCrossing(second)) {
        return Refusal.INDEX;
      }
      if (!pokes(first, second)) {
        return Refusal.UNSUPPORTED;
      }
      remove(Math.max(first, second));
      remove(Math.min(first, second));
      return Refusal.NONE;
    }

    private void remove(int crossing) {
      int over = overAt[crossing];
      int under = underAt[crossing];
      count--;
      for (int kept = 0; kept < count; kept++) {
        int source = kept < crossing ? kept : kept + 1;
        overAt[kept] = closeGaps(overAt[source], over, under);
        underAt[kept] = closeGaps(underAt[source], over, under);
        positive[kept] = positive[source];
      }
    }

    private static int closeGaps(int position, int over, int under) {
      return position - (position > over ? 1 : 0) - (position > under ? 1 : 0);
    }

    Refusal switchOne(int crossing) {
      if (!hasCrossing(crossing)) {
        return Refusal.INDEX;
      }
      exchange(crossing);
      return Refusal.NONE;
    }

    Refusal switchAll() {
      for (int crossing = 0; crossing < count; crossing++) {
        exchange(crossing);
      }
      return Refusal.NONE;
    }

    private void exchange(int crossing) {
      int over = overAt[crossing];
      overAt[crossing] = underAt[crossing];
      underAt[crossing] = over;
      positive[crossing] = !positive[crossing];
    }

    Refusal turnBack() {
      int last = 2 * count - 1;
      for (int crossing = 0; crossing < count; crossing++) {
        overAt[crossing] = last - overAt[crossing];
        underAt[crossing] = last - underAt[crossing];
      }
      return Refusal.NONE;
    }

    Refusal turnTo(int position) {
      if (!hasPosition(position)) {
        return Refusal.INDEX;
      }
      for (int crossing = 0; crossing < count; crossing++) {
        overAt[crossing] = Math.floorMod(overAt[crossing] - position, 2 * count);
        underAt[crossing] = Math.floorMod(underAt[crossing] - position, 2 * count);
      }
      return Refusal.NONE;
    }

    Refusal simplify() {
      for (int step = 0; step < MOST_CROSSINGS; step++) {
        if (!dropLowestCurl() && !dropLowestPoke()) {
          return Refusal.NONE;
        }
      }
      return Refusal.NONE;
    }

    private boolean dropLowestCurl() {
      for (int crossing = 0; crossing < count; crossing++) {
        if (curls(crossing)) {
          remove(crossing);
          return true;
        }
      }
      return false;
    }

    private boolean dropLowestPoke() {
      for (int low = 0; low < count; low++) {
        for (int high = low + 1; high < count; high++) {
          if (pokes(low, high)) {
            remove(high);
            remove(low);
            return true;
          }
        }
      }
      return false;
    }
  }

  /** The players with their coins and open bets, and the house; a stake of 0 is no open bet. */
  private static final class Bets {
    final int[] coins = new int[MOST_PLAYERS];
    final int[] guesses = new int[MOST_PLAYERS];
    final int[] stakes = new int[MOST_PLAYERS];
    int count;
    int houseCoins;

    void copyFrom(Bets other) {
      count = other.count;
      houseCoins = other.houseCoins;
      for (int player = 0; player < count; player++) {
        coins[player] = other.coins[player];
        guesses[player] = other.guesses[player];
        stakes[player] = other.stakes[player];
      }
    }

    boolean hasPlayer(int player) {
      return player >= 0 && player < count;
    }

    Refusal enter() {
      if (count >= MOST_PLAYERS) {
        return Refusal.STATE;
      }
      coins[count] = COINS_AT_START;
      guesses[count] = 0;
      stakes[count] = 0;
      count++;
      return Refusal.NONE;
    }

    Refusal wager(int player, int number, int stake) {
      if (!hasPlayer(player)) {
        return Refusal.INDEX;
      }
      if (number < 0 || number > MOST_CROSSINGS || stake < 1 || stake > 99) {
        return Refusal.ARGUMENT;
      }
      if (stakes[player] > 0) {
        return Refusal.STATE;
      }
      if (coins[player] < stake) {
        return Refusal.UNSUPPORTED;
      }
      coins[player] -= stake;
      guesses[player] = number;
      stakes[player] = stake;
      return Refusal.NONE;
    }

    int allStakes() {
      int sum = 0;
      for (int player = 0; player < count; player++) {
        sum += stakes[player];
      }
      return sum;
    }

    int allCoins() {
      int sum = allStakes() + houseCoins;
      for (int player = 0; player < count; player++) {
        sum += coins[player];
      }
      return sum;
    }

    private boolean wins(int player, int switches) {
      return stakes[player] > 0 && guesses[player] == switches;
    }

    int winners(int switches) {
      int sum = 0;
      for (int player = 0; player < count; player++) {
        sum += wins(player, switches) ? 1 : 0;
      }
      return sum;
    }

    Refusal pay(int switches) {
      int rest = allStakes();
      if (rest == 0) {
        return Refusal.STATE;
      }
      if (switches == SwitchSearch.NOTHING) {
        return Refusal.ELEMENT;
      }
      int winners = winners(switches);
      int share = winners == 0 ? 0 : rest / winners;
      for (int player = 0; player < count; player++) {
        if (wins(player, switches)) {
          coins[player] += share;
          rest -= share;
        }
        stakes[player] = 0;
      }
      houseCoins += rest;
      return Refusal.NONE;
    }

    int playerOfRank(int rank) {
      for (int player = 0; player < count; player++) {
        if (rankOf(player) == rank) {
          return player;
        }
      }
      return -1;
    }

    private int rankOf(int player) {
      int rank = 0;
      for (int other = 0; other < count; other++) {
        if (coins[other] > coins[player] || coins[other] == coins[player] && other < player) {
          rank++;
        }
      }
      return rank;
    }
  }

  /** What undo and the snapshot cover. */
  private static final class State {
    final Diagram diagram = new Diagram();
    final Bets bets = new Bets();

    void copyFrom(State other) {
      diagram.copyFrom(other.diagram);
      bets.copyFrom(other.bets);
    }
  }

  /** The states before the latest changes. */
  private static final class History {
    // One slot more than changes are kept: a staged state must not overwrite the oldest of them.
    private static final int SLOTS = MOST_CHANGES + 1;

    private final State[] slots = new State[SLOTS];
    private int next;
    int kept;

    History() {
      for (int slot = 0; slot < SLOTS; slot++) {
        slots[slot] = new State();
      }
    }

    /** Notes a state before a change; it counts only once the change is kept. */
    void stage(State state) {
      slots[next].copyFrom(state);
    }

    State staged() {
      return slots[next];
    }

    void keep() {
      next = next == SLOTS - 1 ? 0 : next + 1;
      kept = Math.min(kept + 1, MOST_CHANGES);
    }

    State takeBack() {
      next = next == 0 ? SLOTS - 1 : next - 1;
      kept = Math.max(kept - 1, 0);
      return slots[next];
    }

    void forget() {
      kept = 0;
    }
  }

  /** Counts the colourings of a diagram. */
  private static final class Colouring {
    private final int[] overArc = new int[MOST_CROSSINGS];
    private final int[] endingArc = new int[MOST_CROSSINGS];
    private final int[] beginningArc = new int[MOST_CROSSINGS];
    private final int[][] rows = new int[MOST_CROSSINGS][MOST_CROSSINGS];
    private final int[] colours = new int[MOST_CROSSINGS];
    private int crossings;

    private void readArcs(Diagram diagram) {
      crossings = diagram.count;
      for (int crossing = 0; crossing < crossings; crossing++) {
        int under = diagram.underAt[crossing];
        overArc[crossing] = diagram.arcOf(diagram.overAt[crossing]);
        endingArc[crossing] = diagram.arcOf(diagram.before(under));
        beginningArc[crossing] = diagram.arcOf(under);
      }
    }

    int countByElimination(Diagram diagram, int prime) {
      readArcs(diagram);
      fillRows(prime);
      int free = diagram.arcs() - eliminate(prime);
      int result = 1;
      for (int arc = 0; arc < free; arc++) {
        result *= prime;
      }
      return result;
    }

    private void fillRows(int prime) {
      for (int crossing = 0; crossing < crossings; crossing++) {
        Arrays.fill(rows[crossing], 0);
        rows[crossing][overArc[crossing]] += 2;
        rows[crossing][endingArc[crossing]] += prime - 1;
        rows[crossing][beginningArc[crossing]] += prime - 1;
        for (int arc = 0; arc < crossings; arc++) {
          rows[crossing][arc] = Math.floorMod(rows[crossing][arc], prime);
        }
      }
    }

    /** Brings the rows into echelon form and returns their rank. */
    private int eliminate(int prime) {
      int rank = 0;
      for (int arc = 0; arc < crossings; arc++) {
        int pivot = pivotRow(rank, arc);
        if (pivot < crossings) {
          exchangeRows(rank, pivot);
          for (int row = rank + 1; row < crossings; row++) {
            cancel(row, rank, arc, prime);
          }
          rank++;
        }
      }
      return rank;
    }

    private int pivotRow(int from, int arc) {
      for (int row = from; row < crossings; row++) {
        if (rows[row][arc] != 0) {
          return row;
        }
      }
      return crossings;
    }

    private void exchangeRows(int one, int other) {
      for (int arc = 0; arc < crossings; arc++) {
        int value = rows[one][arc];
        rows[one][arc] = rows[other][arc];
        rows[other][arc] = value;
      }
    }

    /** Scales a row by the pivot, which keeps the rank, and so needs no inverse. */
    private void cancel(int row, int pivotRow, int arc, int prime) {
      int pivot = rows[pivotRow][arc];
      int own = rows[row][arc];
      for (int column = 0; column < crossings; column++) {
        int value = rows[row][column] * pivot - rows[pivotRow][column] * own;
        rows[row][column] = Math.floorMod(value, prime);
      }
    }

    int countByTrying(Diagram diagram) {
      readArcs(diagram);
      return crossings == 0 ? 3 : tryFrom(this, 0);
    }

    /** Counts the ways to colour an arc and those after it, the arcs before it being coloured. */
    private static int tryFrom(Colouring colouring, int arc) {
      if (arc >= colouring.crossings) {
        return 1;
      }
      int sum = 0;
      for (int colour = 0; colour < 3; colour++) {
        colouring.colours[arc] = colour;
        if (colouring.fits(arc)) {
          sum += tryFrom(colouring, arc + 1);
        }
      }
      return sum;
    }

    /** Checks the crossings whose last coloured arc is this one. */
    private boolean fits(int arc) {
      for (int crossing = 0; crossing < crossings; crossing++) {
        int over = overArc[crossing];
        int ending = endingArc[crossing];
        int beginning = beginningArc[crossing];
        if (Math.max(over, Math.max(ending, beginning)) == arc
            && (2 * colours[over] - colours[ending] - colours[beginning]) % 3 != 0) {
          return false;
        }
      }
      return true;
    }
  }

  /** The polynomials of a diagram, in rows with the exponents from -50 to 50. */
  private static final class Bracket {
    private static final int ROW = 2 * HIGHEST_EXPONENT + 1;

    final int[] byStates = new int[ROW];
    final int[] byResolving = new int[ROW];
    final int[] normalized = new int[ROW];
    // Row k tells which edges are joined when the crossings before k are smoothed.
    private final int[][] joined = new int[MOST_CROSSINGS + 1][MOST_PASSES];

    int loopsOf(Diagram diagram, int along) {
      int parts = separate(diagram);
      for (int crossing = 0; crossing < diagram.count; crossing++) {
        parts -= smooth(diagram, crossing, isInSet(crossing, along), joined[0]);
      }
      return parts;
    }

    /** Makes every edge a part of its own and returns their number. */
    private int separate(Diagram diagram) {
      for (int edge = 0; edge < diagram.passes(); edge++) {
        joined[0][edge] = edge;
      }
      return diagram.count == 0 ? 1 : diagram.passes();
    }

    /** Joins edges at a crossing and returns by how much the number of parts sinks. */
    private static int smooth(Diagram diagram, int crossing, boolean isAlong, int[] parts) {
      int fromOver = diagram.overAt[crossing];
      int fromUnder = diagram.underAt[crossing];
      int toOver = diagram.before(fromOver);
      int toUnder = diagram.before(fromUnder);
      if (isAlong) {
        return join(toOver, fromUnder, parts) + join(toUnder, fromOver, parts);
      }
      return join(toOver, toUnder, parts) + join(fromOver, fromUnder, parts);
    }

    private static int join(int one, int other, int[] parts) {
      int stays = parts[one];
      int goes = parts[other];
      if (stays == goes) {
        return 0;
      }
      for (int edge = 0; edge < parts.length; edge++) {
        if (parts[edge] == goes) {
          parts[edge] = stays;
        }
      }
      return 1;
    }

    void sumStates(Diagram diagram) {
      Arrays.fill(byStates, 0);
      for (int along = 0; along < diagram.sets(); along++) {
        int exponent = 0;
        for (int crossing = 0; crossing < diagram.count; crossing++) {
          exponent += isInSet(crossing, along) == diagram.positive[crossing] ? 1 : -1;
        }
        addFactor(byStates, exponent, loopsOf(diagram, along) - 1);
      }
    }

    void resolveAll(Diagram diagram) {
      Arrays.fill(byResolving, 0);
      resolve(this, diagram, 0, 0, separate(diagram));
    }

    private static void resolve(
        Bracket bracket, Diagram diagram, int crossing, int exponent, int parts) {
      if (crossing >= diagram.count || crossing >= MOST_CROSSINGS) {
        addFactor(bracket.byResolving, exponent, parts - 1);
        return;
      }
      int[] here = bracket.joined[crossing];
      int[] below = bracket.joined[crossing + 1];
      int sign = diagram.positive[crossing] ? 1 : -1;
      System.arraycopy(here, 0, below, 0, MOST_PASSES);
      int alongParts = parts - smooth(diagram, crossing, true, below);
      resolve(bracket, diagram, crossing + 1, exponent + sign, alongParts);
      System.arraycopy(here, 0, below, 0, MOST_PASSES);
      int acrossParts = parts - smooth(diagram, crossing, false, below);
      resolve(bracket, diagram, crossing + 1, exponent - sign, acrossParts);
    }

    /** Adds a to the power of an exponent, multiplied some times by -a^2 - a^-2. */
    private static void addFactor(int[] polynomial, int exponent, int times) {
      int term = times % 2 == 0 ? 1 : -1;
      for (int chosen = 0; chosen <= times; chosen++) {
        int index = exponent + 4 * chosen - 2 * times + HIGHEST_EXPONENT;
        if (index >= 0 && index < polynomial.length) {
          polynomial[index] += term;
        }
        term = term * (times - chosen) / (chosen + 1);
      }
    }

    void normalize(Diagram diagram) {
      sumStates(diagram);
      int writhe = diagram.signSum();
      int sign = writhe % 2 == 0 ? 1 : -1;
      for (int index = 0; index < ROW; index++) {
        int exponent = index - HIGHEST_EXPONENT;
        normalized[index] = sign * valueAt(byStates, exponent + 3 * writhe);
      }
    }

    boolean waysAgree() {
      for (int index = 0; index < ROW; index++) {
        if (byStates[index] != byResolving[index]) {
          return false;
        }
      }
      return true;
    }
  }

  /** Finds the smallest sets of crossings whose switches make a diagram plainly unknotted. */
  private static final class SwitchSearch {
    private static final int NOTHING = -1;

    private final Diagram trial = new Diagram();
    // The set that was found last, as a sum of 2 to the power of each number.
    int smallestSet;

    /** Finds the smallest set, of several the one with the lowest sum, and returns its size. */
    int fewest(Diagram diagram) {
      int best = NOTHING;
      for (int set = 0; set < diagram.sets(); set++) {
        int size = Integer.bitCount(set);
        if (best == NOTHING || size < best) {
          trial.copySwitched(diagram, set);
          trial.simplify();
          if (trial.count == 0) {
            best = size;
            smallestSet = set;
          }
        }
      }
      return best;
    }

    int fewestByDepth(Diagram diagram) {
      for (int depth = 0; depth <= diagram.count; depth++) {
        if (reaches(this, diagram, 0, 0, depth)) {
          return depth;
        }
      }
      return NOTHING;
    }

    /** Tells whether some more switches, of crossings from a number on, complete a set. */
    private static boolean reaches(
        SwitchSearch search, Diagram diagram, int set, int from, int more) {
      if (more <= 0) {
        search.trial.copySwitched(diagram, set);
        search.trial.simplify();
        return search.trial.count == 0;
      }
      for (int crossing = from; crossing < diagram.count; crossing++) {
        if (reaches(search, diagram, set | 1 << crossing, crossing + 1, more - 1)) {
          return true;
        }
      }
      return false;
    }
  }

  /** The script buffer and a reader of its commands. */
  private static final class Script {
    private static final int NO_ERROR = -1;
    private static final Command[] COMMANDS = Command.values();

    private final char[] typed = new char[LONGEST_SCRIPT];
    final int[] arguments = new int[4];
    int length;
    Command command;
    private int cursor;
    private int given;

    void append(char character) {
      if (length < typed.length) {
        typed[length] = character;
        length++;
      }
    }

    void clear() {
      length = 0;
    }

    void rewind() {
      cursor = 0;
    }

    /** The first index at which the script leaves its form, or NO_ERROR. */
    int firstError() {
      cursor = 0;
      for (int commands = 0; commands <= LONGEST_SCRIPT; commands++) {
        if (!readCommand()) {
          return cursor;
        }
        if (cursor == length) {
          return NO_ERROR;
        }
        if (!readSign(';')) {
          return cursor;
        }
      }
      return cursor;
    }

    /** Goes on to the next command of a script without errors; false behind the last one. */
    boolean advance() {
      return cursor < length && (cursor == 0 || readSign(';')) && readCommand();
    }

    /** Reads a command; if it returns false, the cursor is where the form was left. */
    private boolean readCommand() {
      given = 0;
      command = readWord();
      if (command == null) {
        return false;
      }
      String form = command.form;
      for (int part = 0; part < form.length(); part++) {
        if (!readPart(form.charAt(part))) {
          return false;
        }
      }
      return true;
    }

    private Command readWord() {
      int furthest = cursor;
      for (int index = 0; index < COMMANDS.length; index++) {
        String word = COMMANDS[index].word;
        int matched = matchedLength(word);
        if (matched == word.length()) {
          cursor += matched;
          return COMMANDS[index];
        }
        furthest = Math.max(furthest, cursor + matched);
      }
      cursor = furthest;
      return null;
    }

    private int matchedLength(String word) {
      int matched = 0;
      while (matched < word.length() && isSignAt(cursor + matched, word.charAt(matched))) {
        matched++;
      }
      return matched;
    }

    private boolean readPart(char part) {
      if (part == 'n') {
        return readNumber();
      }
      if (part == 'd') {
        return readDigit();
      }
      if (part == 's') {
        return readChoice('+', '-');
      }
      if (part == 'p') {
        return readChoice('o', 'u');
      }
      if (part == 'w') {
        return readChoice('=', 'x');
      }
      return readSign(part);
    }

    private boolean readNumber() {
      if (!isDigitAt(cursor)) {
        return false;
      }
      int number = digitAt(cursor);
      cursor++;
      if (isDigitAt(cursor)) {
        number = 10 * number + digitAt(cursor);
        cursor++;
      }
      give(number);
      return true;
    }

    private boolean readDigit() {
      if (!isDigitAt(cursor)) {
        return false;
      }
      give(digitAt(cursor));
      cursor++;
      return true;
    }

    private boolean readChoice(char yes, char no) {
      if (readSign(yes)) {
        give(1);
        return true;
      }
      if (readSign(no)) {
        give(0);
        return true;
      }
      return false;
    }

    private boolean readSign(char sign) {
      if (!isSignAt(cursor, sign)) {
        return false;
      }
      cursor++;
      return true;
    }

    private boolean isSignAt(int index, char sign) {
      return index >= 0 && index < length && typed[index] == sign;
    }

    private boolean isDigitAt(int index) {
      return index >= 0 && index < length && typed[index] >= '0' && typed[index] <= '9';
    }

    private int digitAt(int index) {
      return isDigitAt(index) ? typed[index] - '0' : 0;
    }

    private void give(int argument) {
      if (given < arguments.length) {
        arguments[given] = argument;
        given++;
      }
    }
  }

  /** The output text. */
  private static final class Output {
    final char[] text = new char[LONGEST_OUTPUT];
    int length;

    void clear() {
      length = 0;
    }

    void put(char character) {
      if (length < text.length) {
        text[length] = character;
        length++;
      }
    }

    void putNumber(int number) {
      int size = Math.abs(number);
      if (number < 0) {
        put('-');
      }
      for (int unit = 1000000000; unit > 0; unit /= 10) {
        if (size >= unit || unit == 1) {
          put((char) ('0' + size / unit % 10));
        }
      }
    }
  }
}
