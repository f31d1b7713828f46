import java.util.ArrayList;
import java.util.List;
import java.util.function.Supplier;

/**
 * The sentences of the document that name a boundary, as far as PromiseTest does not have them, and
 * each "Throws" row from both sides. Every method says the head that it is for.
 */
public final class BoundaryTest extends Checks {
  private static final int LOW = Integer.MIN_VALUE;
  private static final int HIGH = Integer.MAX_VALUE;
  private static final int MOST_CROSSINGS = 7;
  private static final int MOST_PLAYERS = 4;

  private BoundaryTest() {}

  private interface On {
    Object call(KnotLaboratory lab);
  }

  private interface OnIndex {
    Object call(KnotLaboratory lab, int index);
  }

  // What the sweeps below need.

  /** The diagram and the bets, read without touching the output text. */
  private static String state(KnotLaboratory lab) {
    StringBuilder all = new StringBuilder();
    for (int crossing = 0; crossing < lab.crossingCount(); crossing++) {
      all.append(lab.isPositive(crossing) ? '+' : '-');
      all.append(lab.overPosition(crossing)).append('/').append(lab.underPosition(crossing));
    }
    all.append(" house ").append(lab.house());
    for (int player = 0; player < lab.playerCount(); player++) {
      int index = player;
      all.append(" player ").append(lab.coins(player));
      all.append(' ').append(outcome(() -> lab.guess(index)));
      all.append(' ').append(outcome(() -> lab.stakeShare(index)));
    }
    return all.toString();
  }

  private static String text(KnotLaboratory lab) {
    StringBuilder text = new StringBuilder();
    Object sign = outcome(() -> lab.outputAt(0));
    while (sign instanceof Character) {
      text.append(sign);
      sign = outcome(() -> lab.outputAt(text.length()));
    }
    return text.toString();
  }

  private static String scriptState(KnotLaboratory lab) {
    return "error " + outcome(lab::errorPosition) + " failed " + outcome(lab::failedCommand);
  }

  /** All that an object holds; afterwards nothing is left to undo, and the buffer is empty. */
  private static String everything(KnotLaboratory lab) {
    StringBuilder all = new StringBuilder(text(lab)).append('\n').append(scriptState(lab));
    all.append('\n').append(state(lab)).append('\n');
    while (returns(() -> all.append(lab.undo()))) {
      all.append(' ').append(state(lab)).append('\n');
    }
    all.append(outcome(lab::restore)).append(' ').append(state(lab)).append('\n');
    all.append(outcome(() -> lab.type('r'))).append(outcome(() -> lab.type('o')));
    all.append(outcome(() -> lab.type('r'))).append(outcome(lab::runScript));
    return all.append(scriptState(lab)).toString();
  }

  /** Exceptions: a call throws what it should and changes nothing. */
  private static void changesNothing(Class<?> want, Supplier<KnotLaboratory> made, On on) {
    KnotLaboratory lab = made.get();
    due(outcome(() -> on.call(lab)), want);
    due(everything(lab), everything(made.get()));
  }

  /** An object in which everything that a call could spoil holds something. */
  private static KnotLaboratory busy(int crossings) {
    KnotLaboratory lab = new KnotLaboratory();
    lab.addPlayer();
    lab.addCurl(0, false, false);
    lab.save();
    outcome(() -> run(lab, "cux"));
    outcome(() -> run(lab, "mirror;uncurl 9"));
    lab.removeCurl(0);
    for (int crossing = 0; crossing < crossings; crossing++) {
      lab.addCurl(2 * crossing, crossing % 2 == 0, crossing % 3 != 0);
    }
    lab.bet(0, 7, 25);
    lab.renderPolynomial();
    typeAll(lab, "mir");
    return lab;
  }

  private static KnotLaboratory busyWithPlayers(int players) {
    KnotLaboratory lab = new KnotLaboratory();
    for (int player = 0; player < players; player++) {
      lab.addPlayer();
    }
    for (int player = 0; player < players; player += 2) {
      lab.bet(player, player, 10 + player);
    }
    lab.renderDiagram();
    typeAll(lab, "mir");
    return lab;
  }

  /** Indices from 0 to a number - 1 are taken, those on both sides of them are not. */
  private static void bounds(
      Class<?> want, int number, Supplier<KnotLaboratory> made, OnIndex on) {
    for (int inside : number == 0 ? new int[0] : new int[] {0, number - 1}) {
      KnotLaboratory lab = made.get();
      due(want.equals(outcome(() -> on.call(lab, inside))), false);
    }
    for (int outside : new int[] {LOW, -1, number, number + 1, HIGH}) {
      changesNothing(want, made, lab -> on.call(lab, outside));
    }
  }

  private static void inside(Object want, Supplier<KnotLaboratory> made, On on) {
    KnotLaboratory lab = made.get();
    due(outcome(() -> on.call(lab)), want);
  }

  // What it is, and Terms.

  /** What it is: an object is used for at most 512 calls, the last of which answer as well. */
  private static void calls512() {
    KnotLaboratory changed = new KnotLaboratory();
    changed.addCurl(0, true, true);
    for (int call = 2; call < 504; call++) {
      due(changed.mirror(), call % 2 == 0 ? -1 : 1);
    }
    changed.addPlayer();
    for (int left = 7; left >= 0; left--) {
      due(changed.undo(), left);
    }
    KnotLaboratory undone = new KnotLaboratory();
    for (int call = 0; call < 512; call += 2) {
      due(undone.addPoke(0, 0, call % 4 == 0, true), 0);
      due(undone.undo(), 0);
    }
    KnotLaboratory asked = torus(7);
    for (int call = 8; call < 512; call++) {
      due(asked.isConsistent(), true);
    }
    due(asked.switchesByDepth(), 3);
    // Typing and running the two scripts of full() takes 65 calls.
    KnotLaboratory refused = full();
    for (int call = 66; call < 512; call++) {
      thrown(STATE, () -> refused.addCurl(14, true, true));
    }
    due(refused.crossingCount(), 7);
  }

  /** Terms: all promises 2 to 5 and 10 leave the normalized polynomial as it is. */
  private static void normalizedStays() {
    String[] starts = {"mirror", "curl 0-u", "poke 0 0=+;switch 0",
        "curl 0+o;poke 1 2=-;switch 1", "curl 0-u;poke 1 2=-;switch 2;curl 3-o"};
    for (String start : starts) {
      String due = polynomial(after(start));
      int places = 2 * after(start).crossingCount();
      for (int place = 0; place <= places; place++) {
        for (int kind = 0; kind < 4; kind++) {
          KnotLaboratory curl = after(start);
          int added = curl.addCurl(place, kind % 2 == 0, kind < 2);
          due(polynomial(curl), due);
          curl.removeCurl(added);
          due(polynomial(curl), due);
          normalizedStaysWithPoke(start, due, place, kind);
        }
      }
    }
  }

  private static void normalizedStaysWithPoke(String start, String due, int place, int kind) {
    int places = 2 * after(start).crossingCount();
    for (int other = 0; other <= places; other++) {
      KnotLaboratory poke = after(start);
      int first = poke.addPoke(place, other, kind % 2 == 0, kind < 2);
      due(polynomial(poke), due);
      poke.reduce();
      due(polynomial(poke), due);
      poke.undo();
      poke.removePoke(first + 1, first);
      due(polynomial(poke), due);
      due(diagram(poke), diagram(after(start)));
    }
  }

  /** Terms, diagrams: 0 to 7 crossings with 0 to 14 passes, and what lies at the ends. */
  private static void diagrams() {
    for (int crossings = 0; crossings <= MOST_CROSSINGS; crossings++) {
      KnotLaboratory lab = busy(crossings);
      due(lab.crossingCount(), crossings);
      int last = 2 * crossings - 1;
      due(returns(() -> lab.crossingAt(last)), crossings > 0);
      due(outcome(() -> lab.crossingAt(last + 1)), INDEX);
      if (crossings < MOST_CROSSINGS) {
        // A new crossing gets the number n; the place 2 * n lies after the last pass.
        due(lab.addCurl(last + 1, true, true), crossings);
        due(lab.crossingAt(last + 1), crossings);
        due(lab.crossingAt(last + 2), crossings);
        lab.undo();
        due(lab.addCurl(0, true, true), crossings);
        due(lab.overPosition(crossings), 0);
        due(lab.crossingAt(last + 2), crossings == 0 ? 0 : crossings - 1);
      }
    }
  }

  /** Terms, diagrams, for promises 3 and 5: the numbers after a removed one decrease by 1. */
  private static void numbersAfterRemoval() {
    String three = "curl 0+o;curl 2-u;curl 4-o";
    String[] left = {"u0- o0- o1- u1-", "o0+ u0+ o1- u1-", "o0+ u0+ u1- o1-"};
    for (int crossing = 0; crossing < 3; crossing++) {
      KnotLaboratory lab = after(three);
      due(lab.removeCurl(crossing), 2);
      due(diagram(lab), left[crossing]);
    }
    // The numbers 0 and 2 of this poke are not neighbours: 1 becomes 0 and 3 becomes 1.
    String apart = "poke 0 0=+;switch 0;poke 3 4x+";
    for (int first = 0; first <= 2; first += 2) {
      KnotLaboratory lab = after(apart);
      due(diagram(lab), "u0- o1- o0- o2+ o3- u1- u3- u2+");
      due(lab.removePoke(first, 2 - first), 2);
      due(diagram(lab), "o0- o1- u0- u1-");
      lab.undo();
      due(lab.removePoke(3, 2), 2);
      due(diagram(lab), "u0- o1- o0- u1-");
    }
    // The first and the last number of six.
    KnotLaboratory wide = after("poke 0 0=+;poke 1 2x+;poke 6 0=-;switch 5");
    due(diagram(wide), "u4- o5- o0+ o2+ o3- o1- u3- u2+ o4- u5- u0+ u1-");
    due(wide.removePoke(5, 0), 4);
    due(diagram(wide), "u3- o1+ o2- o0- u2- u1+ o3- u0-");
  }

  /** Terms, moves, for promises 5 and 19: what is just a poke, and what is just none. */
  private static void pokes() {
    // Both pairs in each order, and each pair across the end of the circle.
    String[] all = {"o0+ o1- u0+ u1-", "o0+ o1- u1- u0+", "u1- u0+ o1- o0+", "u0+ u1- o1- o0+",
        "o1- u0+ u1- o0+", "u1- o0+ o1- u0+", "u0+ o0+ o1- u1-", "o0+ u0+ u1- o1-"};
    String[] scripts = {"poke 0 0=+", "poke 0 0x+", "poke 0 0=+;reverse", "poke 0 0x+;reverse",
        "poke 0 0=+;turn 1", "poke 0 0=+;turn 3", "poke 0 0x+;turn 3", "poke 0 0x+;turn 1;reverse"};
    for (int index = 0; index < all.length; index++) {
      KnotLaboratory lab = after(scripts[index]);
      due(diagram(lab), all[index]);
      due(lab.isPoke(0, 1), true);
      due(lab.isPoke(1, 0), true);
      due(lab.removePoke(0, 1), 0);
    }
    // Across the end with more crossings, once the passes over and once those under.
    KnotLaboratory over = after("curl 0+o;curl 2+o;poke 4 2=+;turn 7");
    due(diagram(over), "o3- o0+ u0+ u2+ u3- o1+ u1+ o2+");
    due(over.isPoke(2, 3), true);
    due(over.removePoke(2, 3), 2);
    due(diagram(over), "o0+ u0+ o1+ u1+");
    KnotLaboratory under = after("curl 0+o;curl 2+o;poke 2 4=+;turn 7");
    due(diagram(under), "u3- o0+ u0+ o2+ o3- o1+ u1+ u2+");
    due(under.removePoke(3, 2), 2);
    // A pass over beside a pass under makes no poke, nor do equal signs.
    String[] none = {"curl 0+o;curl 1-u", "curl 0+o;curl 1-o;curl 0+u", "poke 0 0=+;switch 1",
        "poke 0 0=-;switch 0", "poke 0 0x+;switch 0", "poke 0 0=+;curl 1+o;curl 4+o"};
    int[] expected = {0, 1, 0, 0, 0, 0};
    for (int index = 0; index < none.length; index++) {
      due(after(none[index]).isPoke(0, 1), expected[index] == 1);
    }
    for (String script : List.of("poke 0 0=+;curl 1+o", "poke 0 0=+;curl 3+u",
        "poke 0 0=+;switch 0", "curl 0+o;curl 1-u", "poke 0 0=+;curl 1+o;curl 5+o")) {
      changesNothing(UNSUPPORTED, () -> after(script), lab -> lab.removePoke(0, 1));
      changesNothing(UNSUPPORTED, () -> after(script), lab -> lab.removePoke(1, 0));
    }
  }

  /** Terms, moves, for promises 3 and 18: a curl has no pass between its own. */
  private static void curls() {
    KnotLaboratory lab = after("curl 0+o;curl 1-u;poke 0 0=+;turn 3");
    due(diagram(lab), "u3- o0+ u1- o1- u0+ o2+ o3- u2+");
    boolean[] curl = {false, true, false, false};
    for (int crossing = 0; crossing < 4; crossing++) {
      due(lab.isCurl(crossing), curl[crossing]);
    }
    changesNothing(UNSUPPORTED, () -> after("curl 0+o;curl 1-u;poke 0 0=+"),
        one -> one.removeCurl(0));
    // One pass between: the first and the last but one, and the second and the last.
    KnotLaboratory near = after("curl 0+o;curl 2-o;turn 1;turn 2;curl 1+o;curl 5-u");
    due(diagram(near), "u1- o2+ u2+ o0+ u0+ u3- o3- o1-");
    due(near.isCurl(1), true);
    due(near.removeCurl(1), 3);
    due(diagram(near), "o1+ u1+ o0+ u0+ u2- o2-");
    for (String script : List.of("poke 0 0=+", "poke 0 0=+;turn 1", "poke 0 0=+;turn 2")) {
      changesNothing(UNSUPPORTED, () -> after(script), one -> one.removeCurl(0));
      changesNothing(UNSUPPORTED, () -> after(script), one -> one.removeCurl(1));
    }
  }

  /** Terms, reduction, for promises 10, 21 and 35: it goes on until there is neither. */
  private static void reduction() {
    // A poke, in it a curl, and around it a poke: each appears when the one before is gone.
    KnotLaboratory nested = after("poke 0 0=+;curl 3+o;poke 1 4x-;curl 2-u;curl 7+o");
    due(nested.crossingCount(), 7);
    due(nested.reducedCrossings(), 0);
    due(nested.isPlainlyUnknotted(), true);
    due(nested.crossingCount(), 7);
    due(nested.reduce(), 7);
    due(nested.reduce(), 0);
    // A poke across the end of the circle goes as well.
    due(after("poke 0 0=+;turn 1").reduce(), 2);
    due(after("poke 0 0=+;turn 3").reduce(), 2);
    // What is left of seven keeps its order.
    KnotLaboratory knot = after("curl 0+o;poke 1 2=-;switch 1", "curl 0-u;curl 3+o;poke 5 5x-");
    due(knot.crossingCount(), 7);
    due(knot.reducedCrossings(), 3);
    due(knot.reduce(), 4);
    due(diagram(knot), "o0+ u1+ o2+ u0+ o1+ u2+");
    due(knot.isPlainlyUnknotted(), false);
    due(knot.undo(), 2);
    due(knot.crossingCount(), 7);
    // One crossing is a curl, and two with equal signs are neither curls nor a poke.
    due(after("curl 0-u").isPlainlyUnknotted(), true);
    due(after("poke 0 0=+;switch 0").isPlainlyUnknotted(), false);
    due(after("poke 0 0=+;switch 0").reducedCrossings(), 2);
    due(after("poke 0 0=+;switch 0").switches(), 1);
    due(after("poke 0 0=+;switch 0").switchesByDepth(), 1);
    due(after("poke 0 0=+;switch 0").firstSwitch(), 0);
  }

  /** Terms, arcs, for promises 23 to 26: the last arc goes on before the first pass under. */
  private static void arcs() {
    KnotLaboratory wrapped = after("poke 0 0=+");
    int[] arcs = {1, 1, 0, 1};
    KnotLaboratory begun = after("poke 0 0=+;turn 2");
    int[] arcsBegun = {0, 1, 1, 1};
    KnotLaboratory atEnd = after("poke 0 0x+;turn 3");
    int[] arcsAtEnd = {0, 0, 0, 1};
    for (int position = 0; position < 4; position++) {
      due(wrapped.arcAt(position), arcs[position]);
      due(begun.arcAt(position), arcsBegun[position]);
      due(atEnd.arcAt(position), arcsAtEnd[position]);
    }
    // In each of these diagrams one crossing alone keeps the colourings from being 9.
    String[] scripts = {"curl 0-o;poke 0 2=+;switch 1", "curl 0-o;poke 1 0x-;switch 1",
        "poke 0 0=-;switch 0;curl 2-o", "poke 0 0=+;poke 4 1=+;switch 3"};
    KnotLaboratory same = new KnotLaboratory();
    for (String script : scripts) {
      due(after(script).colourings(3), 3);
      due(after(script).colourings(5), 5);
      due(after(script).colourings(7), 7);
      due(after(script).colouringsByTrying(), 3);
      // One object that has counted other diagrams counts the same.
      run(same, script);
      due(same.colourings(7), 7);
      due(same.colourings(3), 3);
      due(same.colouringsByTrying(), 3);
      while (returns(same::undo)) {
        due(same.colourings(5), 5);
      }
    }
    run(same, "curl 0+o;poke 1 2=-;switch 1");
    due(same.colourings(3), 9);
    due(same.colouringsByTrying(), 9);
    run(same, "switch 0");
    due(same.colourings(3), 3);
    due(same.colouringsByTrying(), 3);
  }

  /** Terms, states and polynomials, for promises 27 to 33: the ends of their ranges. */
  private static void polynomials() {
    KnotLaboratory plus = after("curl 0+o;curl 2+o;curl 4+o;curl 6+o",
        "curl 8+o;curl 0+o;curl 0+u");
    due(plus.bracketCoefficient(21), -1);
    due(plus.bracketCoefficientByResolving(21), -1);
    due(plus.bracketCoefficient(-21), 0);
    due(plus.coefficient(0), 1);
    due(plus.loops(127), 8);
    plus.mirror();
    due(plus.bracketCoefficient(-21), -1);
    due(plus.bracketCoefficientByResolving(-21), -1);
    due(plus.bracketCoefficient(21), 0);
    due(plus.coefficient(0), 1);
    due(plus.loops(127), 8);
    KnotLaboratory knot = torus(7);
    due(polynomial(knot), "-1a-40 1a-36 -1a-32 1a-28 -1a-24 1a-20 1a-12");
    due(knot.coefficient(-40), -1);
    due(knot.coefficient(-41), 0);
    knot.mirror();
    due(polynomial(knot), "1a12 1a20 -1a24 1a28 -1a32 1a36 -1a40");
    due(knot.value(true), 4096.0 + 1048576.0 - 16777216.0 + 268435456.0 - 4294967296.0
        + 68719476736.0 - 1099511627776.0);
    // The writhe is even here, positive and negative.
    due(after("poke 0 0=+;switch 0").writhe(), -2);
    due(polynomial(after("poke 0 0=+;switch 0")), "1a4 1a6 -1a10");
    due(after("poke 0 0=+;switch 1").writhe(), 2);
    due(polynomial(after("poke 0 0=+;switch 1")), "-1a-10 1a-6 1a-4");
    // The numbers of the crossings are the bits: 0 alone, 1 alone, 2 alone.
    KnotLaboratory bits = after("curl 0+o;poke 1 2=-");
    int[] loops = {3, 2, 2, 1, 2, 1, 1, 2};
    for (int along = 0; along < 8; along++) {
      due(bits.loops(along), loops[along]);
    }
    due(after("curl 0+o;poke 2 2=+").loops(1), 3);
    due(after("curl 0+o;poke 2 2=+").loops(2), 1);
    due(after("curl 0+o;poke 2 2=+").loops(4), 1);
  }

  /** Terms, bets, for promises 39 to 48: nobody, everybody, the last coin. */
  private static void bets() {
    KnotLaboratory all = after("player;player;player;player",
        "bet 0 0:1;bet 1 0:2;bet 2 0:1;bet 3 0:3");
    due(all.settle(), 4);
    int[] coins = {100, 99, 100, 98};
    for (int player = 0; player < MOST_PLAYERS; player++) {
      due(all.coins(player), coins[player]);
    }
    due(all.house(), 3);
    due(all.pot(), 0);
    due(all.isConsistent(), true);
    // The pot has fewer coins than there are winners only with stakes of 0, which do not exist.
    KnotLaboratory three = after("player;player;player;player", "bet 0 0:1;bet 1 0:1;bet 3 0:1");
    due(three.settle(), 3);
    due(three.house(), 0);
    due(three.coins(2), 100);
    // No more than three switches are ever needed, so a guess of 7 is never right, and 0 may be.
    KnotLaboratory two = after("player;player;bet 0 7:99;bet 1 0:99");
    due(two.settle(), 1);
    due(two.coins(0), 1);
    due(two.coins(1), 199);
    due(two.house(), 0);
    inside(100, () -> two, lab -> lab.bet(1, 0, 99));
    due(two.pot(), 99);
    due(two.settle(), 1);
    changesNothing(ARGUMENT, BoundaryTest::rich, lab -> lab.bet(1, 0, 100));
    // The number of switches counts when the bets are settled, not when they are made.
    KnotLaboratory later = after("player;bet 0 1:40;curl 0+o;poke 1 2=-;switch 1");
    due(later.settle(), 1);
    due(later.coins(0), 100);
    due(later.house(), 0);
    // All stakes to the house, and the last coin: 0 coins are too few for 1.
    KnotLaboratory poor = broke();
    due(poor.coins(0), 0);
    due(poor.house(), 100);
    due(poor.playerByCoins(0), 1);
    due(poor.isConsistent(), true);
    changesNothing(UNSUPPORTED, BoundaryTest::broke, lab -> lab.bet(0, 0, 1));
  }

  /** The player 1 has 199 coins, more than a stake can be. */
  private static KnotLaboratory rich() {
    return after("player;player;bet 0 7:99;bet 1 0:99;settle");
  }

  /** The player 0 has no coins and no open bet. */
  private static KnotLaboratory broke() {
    return after("player;player;bet 0 7:99;settle;bet 0 6:1;settle");
  }

  /** Terms, scripts, for promises 54 and 55: each place at which a form can be left or cut off. */
  private static void forms() {
    String[] commands = {"curl 0+o", "curl 10-u", "uncurl 0", "poke 0 0=+", "poke 12 13x-",
        "poke 1 10=-", "poke 10 1x+", "unpoke 0 1", "switch 0", "mirror", "reverse", "turn 0",
        "turn 12", "reduce", "player", "bet 0 1:9", "bet 3 7:99", "settle"};
    List<String> whole = new ArrayList<>(List.of(commands));
    // A digit of two can be left out, too.
    whole.addAll(List.of("turn 1", "bet 3 7:9", "curl 1-u"));
    for (String command : commands) {
      for (String start : List.of("", "mirror;", "turn 13;bet 1 2:34;")) {
        for (int cut = 0; cut <= command.length(); cut++) {
          String script = start + command.substring(0, cut);
          boolean isWhole = whole.contains(command.substring(0, cut));
          KnotLaboratory lab = new KnotLaboratory();
          due(outcome(() -> run(lab, script)).equals(ARGUMENT), !isWhole);
          due(outcome(lab::errorPosition), isWhole ? ELEMENT : script.length());
          due(lab.type('m'), 1);
          wrongSign(script);
        }
      }
    }
  }

  /** A sign that no form has anywhere, and signs that it has elsewhere. */
  private static void wrongSign(String start) {
    for (char sign : "~#A_".toCharArray()) {
      KnotLaboratory lab = new KnotLaboratory();
      due(outcome(() -> run(lab, start + sign + "mirror")), ARGUMENT);
      due(lab.errorPosition(), start.length());
      due(outcome(lab::failedCommand), ELEMENT);
      due(outcome(lab::undo), ELEMENT);
    }
  }

  /** Terms, scripts, for promise 54: one digit, two digits, and never three. */
  private static void digits() {
    String[] tooMany = {"curl 100+o", "uncurl 00", "poke 100 0=+", "poke 0 100=+", "poke 00 00=+0",
        "unpoke 00 1", "unpoke 0 11", "switch 00", "turn 100", "bet 00 1:1", "bet 0 11:1",
        "bet 0 1:100", "mirror1", "reverse 0", "reduce0", "player0", "settle0"};
    int[] errors = {7, 8, 7, 9, 12, 8, 10, 8, 7, 5, 7, 10, 6, 7, 6, 6, 6};
    for (int index = 0; index < tooMany.length; index++) {
      String script = tooMany[index];
      changesNothingButError(script, errors[index]);
    }
    due(diagram(after("curl 00+o;curl 02-u;turn 03;turn 3;poke 04 00=+")),
        "u2+ u3- u1- o1- o0+ u0+ o2+ o3-");
    due(after("player;bet 0 0:01").pot(), 1);
    due(after("player;bet 0 0:1").pot(), 1);
    due(after("player;bet 0 0:10").pot(), 10);
    due(after("player;bet 0 0:99").pot(), 99);
  }

  /** Promise 54: the form is wrong; nothing but the error position and the buffer changes. */
  private static void changesNothingButError(String script, int error) {
    KnotLaboratory lab = unfinished();
    due(outcome(() -> run(lab, script)), ARGUMENT);
    due(lab.errorPosition(), error);
    due(lab.type('x'), 1);
    thrown(ARGUMENT, lab::runScript);
    KnotLaboratory twin = unfinished();
    thrown(ARGUMENT, () -> run(twin, "x"));
    due(everything(lab), everything(twin));
  }

  /** As busy, but with an empty buffer. */
  private static KnotLaboratory unfinished() {
    KnotLaboratory lab = busy(3);
    typeAll(lab, "ror");
    lab.runScript();
    return lab;
  }

  /** Promise 54: a command fails; nothing but its index and the buffer changes. */
  private static void changesNothingButFailure(String script, int index) {
    KnotLaboratory lab = unfinished();
    due(outcome(() -> run(lab, script)), STATE);
    due(lab.failedCommand(), index);
    due(lab.type('x'), 1);
    thrown(ARGUMENT, lab::runScript);
    thrown(STATE, () -> run(lab, "uncurl 8"));
    KnotLaboratory twin = unfinished();
    thrown(ARGUMENT, () -> run(twin, "x"));
    thrown(STATE, () -> run(twin, "uncurl 8"));
    due(everything(lab), everything(twin));
  }

  /** Terms, scripts, for promises 53, 54 and 56: the first and the last of many commands. */
  private static void fullBuffer() {
    String sixty = "reverse;reverse;mirror;reverse;reverse;mirror;reverse;mirror";
    due(sixty.length(), 60);
    KnotLaboratory lab = after("curl 0+o");
    due(typeAll(lab, sixty), 60);
    changesNothing(STATE, () -> withBuffer(sixty), one -> one.type(';'));
    due(outcome(() -> lab.type('x')), STATE);
    due(lab.runScript(), 8);
    due(lab.writhe(), -1);
    due(lab.undo(), 1);
    due(lab.writhe(), 1);
    due(lab.type('x'), 1);
    // The most commands, of which the first, one in the middle and the last fail.
    changesNothingButFailure("uncurl 9;mirror;mirror;mirror;mirror;mirror;mirror;mirror", 0);
    changesNothingButFailure("mirror;mirror;mirror;settle;settle;mirror;mirror;mirror", 4);
    changesNothingButFailure("mirror;mirror;mirror;mirror;mirror;mirror;mirror;turn 6", 7);
    changesNothingButFailure("player;curl 0+o;bet 1 0:5;settle;reduce;settle", 5);
    changesNothingButFailure("settle;turn 1;uncurl 0;bet 0 1:75;mirror;bet 0 0:1", 5);
    // The form is looked at before any command is carried out.
    changesNothingButError("uncurl 9;mirror;mirro", 21);
    changesNothingButError("settle;settle;", 14);
    KnotLaboratory wrong = new KnotLaboratory();
    thrown(ARGUMENT, () -> run(wrong, "uncurl 9;x"));
    thrown(ELEMENT, wrong::failedCommand);
    // A form that is right to the last character of a full buffer and wants more of them.
    String cut = "reverse;reverse;mirror;reverse;reverse;mirror;reverse;mirro";
    changesNothingButError(cut, 59);
    changesNothingButError(sixty.substring(0, 54) + "curl", 58);
    changesNothingButError(sixty.substring(0, 59) + ";", 59);
  }

  private static KnotLaboratory withBuffer(String typed) {
    KnotLaboratory lab = after("curl 0+o");
    typeAll(lab, typed);
    return lab;
  }

  /** Terms, changes, for promise 57: each change, with other states before and after it. */
  private static void everyChangeIsUndone() {
    List<On> first = List.of(l -> l.addPoke(0, 0, true, true), l -> l.addCurl(1, true, false),
        l -> l.reverse(), l -> l.turn(2), l -> l.mirror(), l -> l.switchCrossing(2),
        l -> l.addPlayer(), l -> l.bet(0, 0, 30));
    undoAll("player", first.subList(0, 6));
    undoAll("mirror", first);
    List<On> second = List.of(l -> l.addCurl(0, false, true), l -> l.addPlayer(),
        l -> l.bet(0, 3, 20), l -> l.bet(1, 0, 7), l -> l.settle(), l -> l.bet(0, 5, 6),
        l -> run(l, "turn 1;bet 1 7:1"), l -> l.removeCurl(0));
    undoAll("player", second);
    List<On> third = List.of(l -> l.addPoke(2, 0, false, true), l -> l.removePoke(2, 1),
        l -> l.addPoke(0, 1, true, false), l -> l.reduce(), l -> l.addCurl(0, true, true),
        l -> l.reverse(), l -> l.turn(1), l -> l.mirror());
    undoAll("curl 0+o", third);
  }

  private static void undoAll(String start, List<On> changes) {
    undoAll(after(start), changes, lab -> 0);
    // What throws in between is no change and does not disturb those that are.
    undoAll(after(start), changes, lab -> outcome(() -> lab.turn(99)));
    undoAll(after(start), changes, lab -> outcome(() -> run(lab, "mirror;curl 99+o")));
  }

  private static void undoAll(KnotLaboratory lab, List<On> changes, On between) {
    List<String> states = new ArrayList<>();
    for (On change : changes) {
      states.add(state(lab));
      due(returns(() -> change.call(lab)), true);
      due(state(lab).equals(states.get(states.size() - 1)), false);
      between.call(lab);
    }
    // The script at the start is a change, too, but behind eight others it is too old to be undone.
    int others = changes.size() < 8 ? 1 : 0;
    for (int left = changes.size() - 1; left >= 0; left--) {
      due(lab.undo(), left + others);
      due(state(lab), states.get(left));
    }
  }

  /** Terms, changes, for promise 57: a change counts even if the state is the same afterwards. */
  private static void sameStateIsAChange() {
    List<On> idle = List.of(l -> l.mirror(), l -> l.reverse(), l -> l.reduce());
    for (On change : idle) {
      KnotLaboratory lab = new KnotLaboratory();
      change.call(lab);
      due(lab.undo(), 0);
      thrown(ELEMENT, lab::undo);
    }
    for (String script : List.of("mirror", "mirror;mirror", "reduce;reverse",
        "curl 0+o;uncurl 0")) {
      KnotLaboratory lab = new KnotLaboratory();
      run(lab, script);
      due(lab.undo(), 0);
      thrown(ELEMENT, lab::undo);
    }
    KnotLaboratory lab = torus(3);
    lab.turn(0);
    due(lab.undo(), 3);
    lab.reduce();
    due(lab.undo(), 3);
    run(lab, "turn 0");
    due(lab.undo(), 3);
  }

  /** Terms, changes, for promise 57: seven, eight, nine and many changes. */
  private static void latestEight() {
    for (int changes : new int[] {0, 1, 7, 8, 9, 16, 17, 18, 100}) {
      KnotLaboratory lab = new KnotLaboratory();
      for (int change = 1; change <= changes; change++) {
        if (change % 2 == 1) {
          lab.addCurl(0, true, true);
        } else {
          lab.reduce();
        }
      }
      for (int left = Math.min(changes, 8) - 1; left >= 0; left--) {
        due(lab.undo(), left);
        due(lab.crossingCount(), (changes - Math.min(changes, 8) + left) % 2);
      }
      changesNothingMore(lab);
    }
    // After an undo the dropped changes do not come back, and new ones fill up to eight again.
    KnotLaboratory lab = new KnotLaboratory();
    for (int change = 0; change < 10; change++) {
      lab.mirror();
    }
    due(lab.undo(), 7);
    due(lab.undo(), 6);
    lab.mirror();
    due(lab.undo(), 6);
    lab.mirror();
    lab.mirror();
    lab.mirror();
    due(lab.undo(), 7);
    // An undo is no change that could be undone: the change before it is next.
    KnotLaboratory twice = after("curl 0+o", "player");
    due(twice.undo(), 1);
    due(twice.undo(), 0);
    due(twice.crossingCount(), 0);
  }

  private static void changesNothingMore(KnotLaboratory lab) {
    String before = state(lab);
    thrown(ELEMENT, lab::undo);
    thrown(ELEMENT, lab::undo);
    due(state(lab), before);
    lab.mirror();
    due(lab.undo(), 0);
  }

  /** Terms, changes, for promises 57 to 59: what undo and the snapshot leave alone. */
  private static void whatIsNotCovered() {
    KnotLaboratory undone = busy(2);
    due(undone.undo(), 5);
    due(undone.undo(), 4);
    due(text(undone), "1a0");
    due(scriptState(undone), "error 2 failed 1");
    due(undone.type('r'), 4);
    due(undone.restore(), 1);
    due(diagram(undone), "u0- o0-");
    KnotLaboratory restored = busy(2);
    due(restored.restore(), 1);
    due(text(restored), "1a0");
    due(scriptState(restored), "error 2 failed 1");
    due(restored.type('r'), 4);
    typeAll(restored, "or");
    due(restored.runScript(), 1);
    due(restored.writhe(), 1);
    // A later snapshot replaces an earlier one, also when the changes between them are undone.
    KnotLaboratory lab = new KnotLaboratory();
    due(lab.save(), 0);
    lab.addCurl(0, true, true);
    due(lab.save(), 1);
    lab.addCurl(0, true, true);
    lab.undo();
    lab.undo();
    due(lab.crossingCount(), 0);
    due(lab.restore(), 1);
    lab.addPlayer();
    due(lab.restore(), 1);
    due(lab.playerCount(), 0);
    thrown(ELEMENT, lab::undo);
    // A snapshot is taken and restored without a change; before restore, undo goes on as it was.
    KnotLaboratory saved = after("curl 0+o", "curl 0+o");
    saved.save();
    due(saved.undo(), 1);
    due(saved.undo(), 0);
    due(saved.restore(), 2);
    thrown(ELEMENT, saved::undo);
    saved.mirror();
    due(saved.undo(), 0);
    due(saved.writhe(), 2);
    // An empty snapshot can be restored, too.
    KnotLaboratory empty = new KnotLaboratory();
    empty.save();
    run(empty, "poke 0 0=+;player;bet 0 1:3");
    due(empty.restore(), 0);
    due(empty.playerCount(), 0);
    due(empty.pot(), 0);
    due(empty.house(), 0);
  }

  /** Terms, changes, and promises 11 to 53: what only asks, types or saves is no change. */
  private static void questionsChangeNothing() {
    List<On> questions = List.of(l -> l.crossingCount(), l -> l.crossingAt(7), l -> l.isOver(0),
        l -> l.isPositive(3), l -> l.overPosition(0), l -> l.underPosition(3), l -> l.writhe(),
        l -> l.isCurl(1), l -> l.isPoke(1, 2), l -> l.isAlternating(), l -> l.reducedCrossings(),
        l -> l.crossingByChord(3), l -> l.arcCount(), l -> l.arcAt(7), l -> l.colourings(3),
        l -> l.colouringsByTrying(), l -> l.loops(15), l -> l.bracketCoefficient(50),
        l -> l.bracketCoefficientByResolving(-50), l -> l.coefficient(0), l -> l.lowestExponent(),
        l -> l.highestExponent(), l -> l.isPolynomialTrivial(), l -> l.value(true),
        l -> l.isPlainlyUnknotted(), l -> l.switches(), l -> l.switchesByDepth(),
        l -> l.firstSwitch(), l -> l.playerCount(), l -> l.coins(0), l -> l.guess(0), l -> l.pot(),
        l -> l.house(), l -> l.playerByCoins(0), l -> l.stakeShare(0), l -> l.isConsistent(),
        l -> l.outputAt(2), l -> l.errorPosition(), l -> l.failedCommand());
    for (On question : questions) {
      KnotLaboratory lab = busy(4);
      due(returns(() -> question.call(lab)), true);
      due(everything(lab), everything(busy(4)));
    }
    // The output text, the buffer and the snapshot are all that these replace.
    KnotLaboratory rendered = busy(4);
    rendered.renderDiagram();
    rendered.renderPolynomial();
    due(everything(rendered), everything(busy(4)));
    KnotLaboratory typed = busy(4);
    typed.type('r');
    due(text(typed) + scriptState(typed) + state(typed), "1a0error 2 failed 1" + state(busy(4)));
    due(typed.undo(), 7);
    KnotLaboratory saved = busy(4);
    due(saved.save(), 4);
    due(text(saved) + scriptState(saved) + state(saved), "1a0error 2 failed 1" + state(busy(4)));
    due(saved.type('r'), 4);
    due(saved.undo(), 7);
  }

  /** Terms, changes, for promises 2 to 10, 39 to 41 and 54: no change touches anything else. */
  private static void changesLeaveTheRestAlone() {
    List<On> changes = List.of(l -> l.addCurl(0, true, true), l -> l.removeCurl(3),
        l -> l.addPoke(0, 8, true, true), l -> l.removePoke(0, 1), l -> l.switchCrossing(2),
        l -> l.mirror(), l -> l.reverse(), l -> l.turn(3), l -> l.reduce(), l -> l.addPlayer(),
        l -> l.bet(1, 0, 1), l -> l.settle(), l -> l.undo(), l -> l.restore());
    for (On change : changes) {
      KnotLaboratory lab = busyWithPoke();
      due(returns(() -> change.call(lab)), true);
      due(text(lab) + scriptState(lab), "1a0error 2 failed 1");
      due(lab.type('r'), 4);
      due(outcome(lab::restore), 1);
      due(diagram(lab), "u0- o0-");
    }
    KnotLaboratory script = busyWithPoke();
    typeAll(script, "ror;turn 1;player;settle;reduce");
    due(script.runScript(), 5);
    due(text(script) + scriptState(script), "1a0error 2 failed 1");
    thrown(ARGUMENT, script::runScript);
    due(text(script) + scriptState(script), "1a0error 0 failed 1");
    thrown(STATE, () -> run(script, "settle"));
    due(text(script) + scriptState(script), "1a0error 0 failed 0");
    due(script.restore(), 1);
  }

  /** Two players, one of them without a bet, and a diagram whose crossings 0 and 1 are a poke. */
  private static KnotLaboratory busyWithPoke() {
    KnotLaboratory lab = busy(0);
    lab.addPlayer();
    lab.addPoke(0, 0, true, true);
    lab.addCurl(4, true, true);
    lab.addCurl(6, false, true);
    return lab;
  }

  /** Terms, changes, for promises 57 and 59: open bets come back as they were. */
  private static void openBetsComeBack() {
    KnotLaboratory lab = after("player;player", "bet 0 1:10;bet 1 6:20");
    lab.save();
    String open = state(lab);
    run(lab, "settle");
    String settled = state(lab);
    run(lab, "bet 0 5:30;bet 1 4:40");
    due(lab.guess(0), 5);
    due(lab.undo(), 3);
    due(state(lab), settled);
    thrown(ELEMENT, () -> lab.guess(0));
    due(lab.undo(), 2);
    due(state(lab), open);
    due(lab.guess(0), 1);
    due(lab.guess(1), 6);
    run(lab, "settle;bet 0 3:7;bet 1 2:9");
    due(lab.restore(), 0);
    due(state(lab), open);
    due(lab.guess(0), 1);
    due(lab.guess(1), 6);
    due(lab.pot(), 30);
    due(lab.house(), 0);
  }

  // Each "Throws" row from both sides.

  /** Promises 2 to 6, 9, 12 to 16, 18, 19, 22, 24 and 27: every index for 0 to 7 crossings. */
  private static void indicesOfDiagrams() {
    for (int count = 0; count <= MOST_CROSSINGS; count++) {
      int crossings = count;
      Supplier<KnotLaboratory> made = () -> busy(crossings);
      bounds(INDEX, 2 * crossings + 1, made, (l, i) -> l.addCurl(i, true, false));
      bounds(INDEX, crossings, made, (l, i) -> l.removeCurl(i));
      bounds(INDEX, 2 * crossings + 1, made, (l, i) -> l.addPoke(i, 0, true, true));
      bounds(INDEX, 2 * crossings + 1, made, (l, i) -> l.addPoke(2 * crossings, i, false, true));
      bounds(INDEX, crossings, made, (l, i) -> l.removePoke(i, crossings - 1));
      bounds(INDEX, crossings, made, (l, i) -> l.removePoke(0, i));
      bounds(INDEX, crossings, made, (l, i) -> l.switchCrossing(i));
      bounds(INDEX, 2 * crossings, made, (l, i) -> l.turn(i));
      bounds(INDEX, 2 * crossings, made, (l, i) -> l.crossingAt(i));
      bounds(INDEX, 2 * crossings, made, (l, i) -> l.isOver(i));
      bounds(INDEX, crossings, made, (l, i) -> l.isPositive(i));
      bounds(INDEX, crossings, made, (l, i) -> l.overPosition(i));
      bounds(INDEX, crossings, made, (l, i) -> l.underPosition(i));
      bounds(INDEX, crossings, made, (l, i) -> l.isCurl(i));
      bounds(INDEX, crossings, made, (l, i) -> l.isPoke(i, 0));
      bounds(INDEX, crossings, made, (l, i) -> l.isPoke(crossings - 1, i));
      bounds(ELEMENT, crossings, made, (l, i) -> l.crossingByChord(i));
      bounds(INDEX, 2 * crossings, made, (l, i) -> l.arcAt(i));
      bounds(ARGUMENT, 1 << crossings, made, (l, i) -> l.loops(i));
    }
  }

  /** Promises 40, 43, 44, 47 and 48: every index for 0 to 4 players. */
  private static void indicesOfPlayers() {
    for (int count = 0; count <= MOST_PLAYERS; count++) {
      int players = count;
      Supplier<KnotLaboratory> made = () -> busyWithPlayers(players);
      bounds(INDEX, players, made, (l, i) -> l.bet(i, 1, 1));
      bounds(INDEX, players, made, (l, i) -> l.bet(i, 8, 0));
      bounds(INDEX, players, made, (l, i) -> l.coins(i));
      bounds(INDEX, players, made, (l, i) -> l.guess(i));
      bounds(ELEMENT, players, made, (l, i) -> l.playerByCoins(i));
      bounds(INDEX, players, made, (l, i) -> l.stakeShare(i));
    }
  }

  /** Promises 2 and 4: room for one crossing more, and for two. */
  private static void fullDiagrams() {
    inside(6, () -> busy(6), lab -> lab.addCurl(12, true, true));
    changesNothing(STATE, () -> busy(7), lab -> lab.addCurl(14, true, true));
    changesNothing(STATE, () -> busy(7), lab -> lab.addCurl(0, false, false));
    changesNothing(INDEX, () -> busy(7), lab -> lab.addCurl(15, true, true));
    changesNothing(INDEX, () -> busy(7), lab -> lab.addCurl(-1, true, true));
    inside(5, () -> busy(5), lab -> lab.addPoke(10, 0, true, true));
    for (int crossings = 6; crossings <= 7; crossings++) {
      int full = crossings;
      changesNothing(STATE, () -> busy(full), lab -> lab.addPoke(2 * full, 0, true, true));
      changesNothing(STATE, () -> busy(full), lab -> lab.addPoke(0, 2 * full, false, false));
      changesNothing(INDEX, () -> busy(full), lab -> lab.addPoke(2 * full + 1, 0, true, true));
      changesNothing(INDEX, () -> busy(full), lab -> lab.addPoke(0, 2 * full + 1, true, true));
      changesNothing(INDEX, () -> busy(full), lab -> lab.addPoke(-1, 0, true, true));
      changesNothing(INDEX, () -> busy(full), lab -> lab.addPoke(0, -1, true, true));
    }
  }

  /** Promises 25 and 28 to 30: the primes and the exponents. */
  private static void argumentsOfPolynomials() {
    for (int number : new int[] {LOW, -7, -5, -3, -1, 0, 1, 2, 4, 6, 8, 9, 11, 13, HIGH}) {
      changesNothing(ARGUMENT, () -> busy(3), lab -> lab.colourings(number));
    }
    for (int prime = 3; prime <= 7; prime += 2) {
      int colours = prime;
      inside(prime, () -> busy(3), lab -> lab.colourings(colours));
    }
    for (int number : new int[] {LOW, -52, -51, 51, 52, HIGH}) {
      changesNothing(ARGUMENT, () -> busy(3), lab -> lab.bracketCoefficient(number));
      changesNothing(ARGUMENT, () -> busy(3), lab -> lab.bracketCoefficientByResolving(number));
      changesNothing(ARGUMENT, () -> busy(3), lab -> lab.coefficient(number));
    }
    for (int number : new int[] {-50, -49, 49, 50}) {
      inside(0, () -> busy(3), lab -> lab.bracketCoefficient(number));
      inside(0, () -> busy(3), lab -> lab.bracketCoefficientByResolving(number));
      inside(0, () -> busy(3), lab -> lab.coefficient(number));
    }
  }

  /** Promises 39 to 41: the players, the guess, the stake, and which exception comes first. */
  private static void refusedBets() {
    inside(3, () -> busyWithPlayers(3), KnotLaboratory::addPlayer);
    changesNothing(STATE, () -> busyWithPlayers(4), KnotLaboratory::addPlayer);
    Supplier<KnotLaboratory> made = () -> busyWithPlayers(4);
    for (int wrong : new int[] {LOW, -1, 8, HIGH}) {
      changesNothing(ARGUMENT, made, lab -> lab.bet(1, wrong, 5));
      changesNothing(ARGUMENT, made, lab -> lab.bet(0, wrong, 5));
    }
    for (int wrong : new int[] {LOW, -1, 0, 100, HIGH}) {
      changesNothing(ARGUMENT, made, lab -> lab.bet(1, 5, wrong));
      changesNothing(ARGUMENT, made, lab -> lab.bet(0, 5, wrong));
    }
    inside(99, made, lab -> lab.bet(1, 0, 1));
    inside(99, made, lab -> lab.bet(1, 7, 1));
    inside(1, made, lab -> lab.bet(3, 0, 99));
    inside(1, made, lab -> lab.bet(3, 7, 99));
    changesNothing(STATE, made, lab -> lab.bet(0, 5, 5));
    // An open bet comes before too few coins: 90 coins are left.
    changesNothing(STATE, made, lab -> lab.bet(0, 5, 91));
    // A wrong guess or stake comes before both.
    changesNothing(ARGUMENT, made, lab -> lab.bet(0, 8, 91));
    Supplier<KnotLaboratory> poor = () -> after("player;bet 0 7:60;settle");
    inside(0, poor, lab -> lab.bet(0, 0, 40));
    changesNothing(UNSUPPORTED, poor, lab -> lab.bet(0, 0, 41));
    changesNothing(UNSUPPORTED, poor, lab -> lab.bet(0, 7, 99));
    changesNothing(ARGUMENT, poor, lab -> lab.bet(0, 8, 41));
    changesNothing(ARGUMENT, poor, lab -> lab.bet(0, -1, 41));
    changesNothing(ARGUMENT, poor, lab -> lab.bet(0, 0, 100));
    changesNothing(INDEX, poor, lab -> lab.bet(1, 8, 100));
  }

  /** Promises 41, 44 and 48: no open bet at all, none of this player, and one. */
  private static void withoutOpenBets() {
    changesNothing(STATE, () -> busyWithPlayers(0), KnotLaboratory::settle);
    changesNothing(STATE, () -> after("player"), KnotLaboratory::settle);
    changesNothing(STATE, () -> after("player;bet 0 0:1;settle"), KnotLaboratory::settle);
    changesNothing(STATE, () -> after("player;bet 0 4:99;settle"), KnotLaboratory::settle);
    inside(1, () -> after("player;bet 0 0:1"), KnotLaboratory::settle);
    inside(0, () -> after("player;player;bet 1 1:1"), KnotLaboratory::settle);
    changesNothing(ELEMENT, () -> busyWithPlayers(4), lab -> lab.guess(1));
    changesNothing(ELEMENT, () -> after("player;bet 0 0:1;settle"), lab -> lab.guess(0));
    inside(0, () -> busyWithPlayers(4), lab -> lab.guess(0));
    inside(2, () -> busyWithPlayers(4), lab -> lab.guess(2));
    changesNothing(ARITHMETIC, () -> after("player"), lab -> lab.stakeShare(0));
    changesNothing(ARITHMETIC, () -> after("player;bet 0 0:1;settle"), lab -> lab.stakeShare(0));
    changesNothing(INDEX, () -> after("player"), lab -> lab.stakeShare(1));
    changesNothing(INDEX, () -> after("player"), lab -> lab.stakeShare(-1));
    inside(0f, () -> busyWithPlayers(4), lab -> lab.stakeShare(1));
    inside(10f / 22f, () -> busyWithPlayers(4), lab -> lab.stakeShare(0));
    inside(1f, () -> after("player;bet 0 7:1"), lab -> lab.stakeShare(0));
  }

  /** Promises 50 to 52: an empty text, a short one and the longest one of a diagram. */
  private static void indicesOfOutput() {
    bounds(INDEX, 0, KnotLaboratory::new, (l, i) -> l.outputAt(i));
    bounds(INDEX, 3, () -> busy(2), (l, i) -> l.outputAt(i));
    bounds(INDEX, 55, BoundaryTest::shown, (l, i) -> l.outputAt(i));
    inside('o', BoundaryTest::shown, lab -> lab.outputAt(0));
    inside('+', BoundaryTest::shown, lab -> lab.outputAt(54));
    // A shorter text leaves nothing of a longer one, nor an empty one of any.
    KnotLaboratory lab = shown();
    due(lab.renderPolynomial(), 3);
    due(text(lab), "1a0");
    lab.reduce();
    due(text(lab), "1a0");
    due(lab.renderDiagram(), 0);
    due(text(lab), "");
  }

  private static KnotLaboratory shown() {
    KnotLaboratory lab = full();
    lab.renderDiagram();
    return lab;
  }

  /** Promise 53: the character codes, and the 60th and 61st character. */
  private static void typed() {
    for (int code : new int[] {0, 9, 10, 30, 31, 127, 128, 160, 255, 256, 32768, 65535}) {
      changesNothing(ARGUMENT, () -> busy(1), lab -> lab.type((char) code));
      changesNothing(ARGUMENT, () -> withBuffer(";".repeat(60)), lab -> lab.type((char) code));
    }
    for (int code : new int[] {32, 33, 59, 125, 126}) {
      inside(4, () -> busy(1), lab -> lab.type((char) code));
      inside(60, () -> withBuffer(";".repeat(59)), lab -> lab.type((char) code));
      changesNothing(STATE, () -> withBuffer(";".repeat(60)), lab -> lab.type((char) code));
    }
    inside(1, KnotLaboratory::new, lab -> lab.type(' '));
  }

  /** Promises 55 to 57 and 59: what there has not been yet. */
  private static void notYet() {
    On[] asked = {KnotLaboratory::errorPosition, KnotLaboratory::failedCommand,
        KnotLaboratory::undo};
    for (On on : asked) {
      changesNothing(ELEMENT, KnotLaboratory::new, on);
      changesNothing(ELEMENT, () -> onlySaved(1), on);
    }
    changesNothing(STATE, KnotLaboratory::new, KnotLaboratory::restore);
    changesNothing(STATE, () -> after("curl 0+o;player", "bet 0 1:2"), KnotLaboratory::restore);
    // The one kind of wrong script does not count as the other.
    KnotLaboratory wrong = new KnotLaboratory();
    thrown(ARGUMENT, wrong::runScript);
    due(wrong.errorPosition(), 0);
    thrown(ELEMENT, wrong::failedCommand);
    KnotLaboratory refused = new KnotLaboratory();
    thrown(STATE, () -> run(refused, "settle"));
    due(refused.failedCommand(), 0);
    thrown(ELEMENT, refused::errorPosition);
    // The latest one of each kind counts; a script that runs changes neither.
    thrown(ARGUMENT, () -> run(refused, "mirror;?"));
    thrown(STATE, () -> run(refused, "mirror;mirror;settle"));
    run(refused, "mirror");
    due(scriptState(refused), "error 7 failed 2");
    thrown(ARGUMENT, () -> run(refused, "!"));
    due(scriptState(refused), "error 0 failed 2");
    thrown(STATE, () -> run(refused, "mirror;settle"));
    due(scriptState(refused), "error 0 failed 1");
  }

  /** A snapshot, and nothing to undo. */
  private static KnotLaboratory onlySaved(int crossings) {
    KnotLaboratory lab = new KnotLaboratory();
    for (int crossing = 0; crossing < crossings; crossing++) {
      lab.addCurl(0, true, true);
    }
    lab.save();
    lab.restore();
    return lab;
  }

  /** Promise 54: the buffer is empty afterwards, whatever has come of the script. */
  private static void bufferAfterRun() {
    String[] scripts = {"mirror", "settle", "mirror;settle", "x", "mirror;", ""};
    Object[] outcomes = {1, STATE, STATE, ARGUMENT, ARGUMENT, ARGUMENT};
    for (int index = 0; index < scripts.length; index++) {
      String script = scripts[index];
      KnotLaboratory lab = new KnotLaboratory();
      due(outcome(() -> run(lab, script)), outcomes[index]);
      due(outcome(lab::runScript), ARGUMENT);
      due(lab.errorPosition(), 0);
      due(lab.type('r'), 1);
    }
  }

  private static void test(String head, Runnable tests) {
    about = head;
    tests.run();
  }

  public static void main(String[] args) {
    test("What it is: 512 calls", BoundaryTest::calls512);
    test("Terms, promises 2 to 5 and 10", BoundaryTest::normalizedStays);
    test("Terms, diagrams", BoundaryTest::diagrams);
    test("Terms, diagrams, promises 3 and 5", BoundaryTest::numbersAfterRemoval);
    test("Terms, moves, promises 5 and 19", BoundaryTest::pokes);
    test("Terms, moves, promises 3 and 18", BoundaryTest::curls);
    test("Terms, reduction, promises 10, 21, 35 to 38", BoundaryTest::reduction);
    test("Terms, arcs and colourings, promises 23 to 26", BoundaryTest::arcs);
    test("Terms, states and polynomials, promises 27 to 34", BoundaryTest::polynomials);
    test("Terms, bets, promises 39 to 48", BoundaryTest::bets);
    test("Terms, scripts, promises 54 and 55", BoundaryTest::forms);
    test("Terms, scripts, promise 54", BoundaryTest::digits);
    test("Terms, scripts, promises 53, 54 and 56", BoundaryTest::fullBuffer);
    test("Terms, changes, promise 57", BoundaryTest::everyChangeIsUndone);
    test("Terms, changes, promise 57", BoundaryTest::sameStateIsAChange);
    test("Terms, changes, promise 57", BoundaryTest::latestEight);
    test("Terms, changes, promises 57 to 59", BoundaryTest::whatIsNotCovered);
    test("Terms, changes, promises 11 to 53", BoundaryTest::questionsChangeNothing);
    test("Terms, changes, promises 2 to 10, 39 to 41, 54", BoundaryTest::changesLeaveTheRestAlone);
    test("Terms, changes, promises 57 and 59", BoundaryTest::openBetsComeBack);
    test("promises 2 to 6, 9, 12 to 19, 22, 24, 27", BoundaryTest::indicesOfDiagrams);
    test("promises 40, 43, 44, 47, 48", BoundaryTest::indicesOfPlayers);
    test("promises 2 and 4", BoundaryTest::fullDiagrams);
    test("promises 25, 28 to 30", BoundaryTest::argumentsOfPolynomials);
    test("promises 39 and 40", BoundaryTest::refusedBets);
    test("promises 41, 44, 48", BoundaryTest::withoutOpenBets);
    test("promises 50 to 52", BoundaryTest::indicesOfOutput);
    test("promise 53", BoundaryTest::typed);
    test("promises 55 to 57, 59", BoundaryTest::notYet);
    test("promise 54", BoundaryTest::bufferAfterRun);
    finish("boundaries");
  }
}
