import java.util.List;

/** For each promise of the document ordinary calls, the edges that it names, and wrong ones. */
public final class PromiseTest extends Checks {
  private static final int[] FAR = {Integer.MIN_VALUE, -1, 14, 15, 99, Integer.MAX_VALUE};

  private PromiseTest() {}

  private static void promise01() {
    KnotLaboratory lab = new KnotLaboratory();
    due(lab.crossingCount(), 0);
    due(lab.playerCount(), 0);
    due(lab.pot(), 0);
    due(lab.house(), 0);
    due(lab.renderDiagram(), 0);
    due(polynomial(lab), "1a0");
    thrown(ELEMENT, lab::undo);
    thrown(STATE, lab::restore);
    lab.addCurl(0, true, true);
    due(new KnotLaboratory().crossingCount(), 0);
  }

  private static void promise02() {
    KnotLaboratory lab = new KnotLaboratory();
    for (int place : new int[] {Integer.MIN_VALUE, -1, 1, Integer.MAX_VALUE}) {
      thrown(INDEX, () -> lab.addCurl(place, true, true));
    }
    due(lab.addCurl(0, true, true), 0);
    due(diagram(lab), "o0+ u0+");
    due(lab.addCurl(1, false, false), 1);
    due(diagram(lab), "o0+ u1- o1- u0+");
    due(lab.addCurl(4, false, true), 2);
    due(diagram(lab), "o0+ u1- o1- u0+ o2- u2-");
    due(lab.addCurl(0, true, false), 3);
    due(diagram(lab), "u3+ o3+ o0+ u1- o1- u0+ o2- u2-");
    thrown(INDEX, () -> lab.addCurl(9, true, true));
    due(lab.addCurl(8, true, true), 4);
    due(lab.addCurl(0, true, true), 5);
    due(lab.addCurl(0, true, true), 6);
    String before = diagram(lab);
    thrown(STATE, () -> lab.addCurl(14, true, true));
    thrown(STATE, () -> lab.addCurl(0, true, true));
    thrown(INDEX, () -> lab.addCurl(15, true, true));
    thrown(INDEX, () -> lab.addCurl(-1, true, true));
    due(diagram(lab), before);
    due(lab.undo(), 6);
  }

  private static void promise03() {
    KnotLaboratory lab = after("curl 0+o;curl 1-u;curl 4-o");
    due(diagram(lab), "o0+ u1- o1- u0+ o2- u2-");
    thrown(UNSUPPORTED, () -> lab.removeCurl(0));
    for (int crossing : new int[] {Integer.MIN_VALUE, -1, 3, Integer.MAX_VALUE}) {
      thrown(INDEX, () -> lab.removeCurl(crossing));
    }
    due(lab.removeCurl(1), 2);
    due(diagram(lab), "o0+ u0+ o1- u1-");
    due(lab.removeCurl(0), 1);
    due(diagram(lab), "o0- u0-");
    due(lab.removeCurl(0), 0);
    thrown(INDEX, () -> lab.removeCurl(0));
    // The last and the first pass are neighbours around the circle.
    KnotLaboratory round = after("curl 0+o;curl 1-u");
    due(round.removeCurl(0), 1);
    due(diagram(round), "u0- o0-");
    due(round.undo(), 1);
    due(diagram(round), "o0+ u1- o1- u0+");
  }

  private static void promise04() {
    KnotLaboratory lab = new KnotLaboratory();
    thrown(INDEX, () -> lab.addPoke(1, 0, true, true));
    thrown(INDEX, () -> lab.addPoke(0, 1, true, true));
    due(lab.addPoke(0, 0, true, true), 0);
    due(diagram(lab), "o0+ o1- u0+ u1-");
    due(lab.addPoke(1, 3, false, false), 2);
    due(diagram(lab), "o0+ o2- o3+ o1- u0+ u3+ u2- u1-");
    thrown(INDEX, () -> lab.addPoke(9, 0, true, true));
    thrown(INDEX, () -> lab.addPoke(0, -1, true, true));
    thrown(INDEX, () -> lab.addPoke(Integer.MAX_VALUE, Integer.MIN_VALUE, true, true));
    due(lab.addPoke(8, 0, true, true), 4);
    due(diagram(lab), "u4+ u5- o0+ o2- o3+ o1- u0+ u3+ u2- u1- o4+ o5-");
    thrown(STATE, () -> lab.addPoke(0, 12, true, true));
    thrown(INDEX, () -> lab.addPoke(0, 13, true, true));
    lab.undo();
    lab.addCurl(0, true, true);
    due(lab.crossingCount(), 5);
    due(lab.addPoke(3, 3, false, true), 5);
    due(diagram(lab), "o4+ u4+ o0+ o5+ o6- u6- u5+ o2- o3+ o1- u0+ u3+ u2- u1-");
    thrown(STATE, () -> lab.addPoke(0, 14, true, true));
    thrown(INDEX, () -> lab.addPoke(15, 14, true, true));
    due(lab.crossingCount(), 7);
  }

  private static void promise05() {
    KnotLaboratory lab = after("curl 0+o;poke 1 2=-;curl 6+u");
    due(diagram(lab), "o0+ o1- o2+ u0+ u1- u2+ u3+ o3+");
    thrown(UNSUPPORTED, () -> lab.removePoke(1, 1));
    thrown(UNSUPPORTED, () -> lab.removePoke(0, 2));
    thrown(UNSUPPORTED, () -> lab.removePoke(2, 3));
    thrown(INDEX, () -> lab.removePoke(4, 1));
    thrown(INDEX, () -> lab.removePoke(1, 4));
    thrown(INDEX, () -> lab.removePoke(-1, -1));
    thrown(INDEX, () -> lab.removePoke(Integer.MAX_VALUE, Integer.MIN_VALUE));
    due(lab.removePoke(2, 1), 2);
    due(diagram(lab), "o0+ u0+ u1+ o1+");
    lab.undo();
    due(lab.removePoke(0, 1), 2);
    due(diagram(lab), "o0+ u0+ u1+ o1+");
    KnotLaboratory anti = after("poke 0 0x+");
    due(anti.removePoke(0, 1), 0);
    thrown(INDEX, () -> anti.removePoke(0, 0));
    // Neighbours around the circle: o1 is the last pass and o0 the first one.
    KnotLaboratory round = after("poke 0 0=+;turn 1");
    due(diagram(round), "o1- u0+ u1- o0+");
    due(round.removePoke(1, 0), 0);
  }

  private static void promise06() {
    KnotLaboratory lab = after("curl 0+o;curl 1-u");
    due(lab.switchCrossing(0), false);
    due(diagram(lab), "u0- u1- o1- o0-");
    due(lab.switchCrossing(1), true);
    due(diagram(lab), "u0- o1+ u1+ o0-");
    due(lab.switchCrossing(0), true);
    due(diagram(lab), "o0+ o1+ u1+ u0+");
    for (int crossing : new int[] {Integer.MIN_VALUE, -1, 2, 7, Integer.MAX_VALUE}) {
      thrown(INDEX, () -> lab.switchCrossing(crossing));
    }
    thrown(INDEX, () -> new KnotLaboratory().switchCrossing(0));
  }

  private static void promise07() {
    KnotLaboratory lab = after("curl 0+o;curl 1-u;curl 0+u");
    due(lab.mirror(), -1);
    due(diagram(lab), "o2- u2- u0- o1+ u1+ o0-");
    due(lab.mirror(), 1);
    KnotLaboratory empty = new KnotLaboratory();
    due(empty.mirror(), 0);
    due(empty.undo(), 0);
  }

  private static void promise08() {
    KnotLaboratory lab = after("curl 0+o;curl 2-u;curl 4+u");
    due(lab.reverse(), 2);
    due(diagram(lab), "o2+ u2+ o1- u1- u0+ o0+");
    due(lab.reverse(), 0);
    KnotLaboratory inner = after("curl 0+o;curl 2-u;curl 3+u");
    due(diagram(inner), "o0+ u0+ u1- u2+ o2+ o1-");
    due(inner.reverse(), 1);
    due(diagram(inner), "o1- o2+ u2+ u1- u0+ o0+");
    KnotLaboratory empty = new KnotLaboratory();
    due(empty.reverse(), -1);
    due(empty.undo(), 0);
  }

  private static void promise09() {
    KnotLaboratory lab = after("curl 0+o;curl 2-u;curl 4+u");
    due(lab.turn(3), 1);
    due(diagram(lab), "o1- u2+ o2+ o0+ u0+ u1-");
    due(lab.turn(0), 1);
    due(diagram(lab), "o1- u2+ o2+ o0+ u0+ u1-");
    due(lab.turn(5), 1);
    due(diagram(lab), "u1- o1- u2+ o2+ o0+ u0+");
    for (int position : new int[] {Integer.MIN_VALUE, -1, 6, Integer.MAX_VALUE}) {
      thrown(INDEX, () -> lab.turn(position));
    }
    thrown(INDEX, () -> new KnotLaboratory().turn(0));
  }

  private static void promise10() {
    due(new KnotLaboratory().reduce(), 0);
    KnotLaboratory curls = full();
    due(curls.reduce(), 7);
    due(curls.crossingCount(), 0);
    due(curls.undo(), 2);
    due(curls.crossingCount(), 7);
    KnotLaboratory knot = torus(3);
    due(knot.reduce(), 0);
    due(knot.undo(), 3);
    // A curl goes before a poke, even though its number is higher.
    KnotLaboratory curl = after("poke 0 0=-;switch 0;poke 2 1x+;curl 1+o");
    due(diagram(curl), "u0+ o4+ u4+ u3- u2+ o1+ o2+ o3- o0+ u1+");
    due(curl.reduce(), 3);
    due(diagram(curl), "u1+ o0+ o1+ u0+");
    // Of the pokes 0 2 and 2 3 the one with the lowest lower number goes.
    KnotLaboratory lower = after("poke 0 0=+;switch 0;poke 3 4x+");
    due(diagram(lower), "u0- o1- o0- o2+ o3- u1- u3- u2+");
    due(lower.isPoke(0, 2), true);
    due(lower.isPoke(2, 3), true);
    due(lower.reduce(), 2);
    due(diagram(lower), "o0- o1- u0- u1-");
    // Of the pokes 0 1 and 0 3 the one with the lowest higher number goes.
    KnotLaboratory higher = after("poke 0 0=-;poke 2 0=+;switch 3");
    due(diagram(higher), "u2+ o3+ o0- o1+ o2+ u3+ u0- u1+");
    due(higher.isPoke(0, 1), true);
    due(higher.isPoke(0, 3), true);
    due(higher.reduce(), 2);
    due(diagram(higher), "u0+ o1+ o0+ u1+");
    // The lower number counts before the higher one: 0 5 goes before 2 3.
    KnotLaboratory first = after("poke 0 0=+;poke 1 2x+;poke 6 0=-;switch 5");
    due(diagram(first), "u4- o5- o0+ o2+ o3- o1- u3- u2+ o4- u5- u0+ u1-");
    due(first.isPoke(0, 5), true);
    due(first.isPoke(2, 3), true);
    due(first.reduce(), 4);
    due(diagram(first), "u1- o0- o1- u0-");
  }

  private static void promise11() {
    KnotLaboratory lab = new KnotLaboratory();
    due(lab.crossingCount(), 0);
    lab.addPoke(0, 0, true, true);
    due(lab.crossingCount(), 2);
    lab.addCurl(0, true, true);
    due(lab.crossingCount(), 3);
    due(full().crossingCount(), 7);
  }

  private static void promise12() {
    KnotLaboratory lab = after("curl 0+o;curl 1-u;curl 4-o");
    int[] crossings = {0, 1, 1, 0, 2, 2};
    for (int position = 0; position < 6; position++) {
      due(lab.crossingAt(position), crossings[position]);
    }
    thrown(INDEX, () -> lab.crossingAt(6));
    for (int position : FAR) {
      thrown(INDEX, () -> lab.crossingAt(position));
      thrown(INDEX, () -> full().crossingAt(position));
    }
    thrown(INDEX, () -> new KnotLaboratory().crossingAt(0));
    due(full().crossingAt(13), 6);
  }

  private static void promise13() {
    KnotLaboratory lab = after("curl 0+o;curl 1-u;curl 4-o");
    boolean[] over = {true, false, true, false, true, false};
    for (int position = 0; position < 6; position++) {
      due(lab.isOver(position), over[position]);
    }
    thrown(INDEX, () -> lab.isOver(6));
    for (int position : FAR) {
      thrown(INDEX, () -> lab.isOver(position));
    }
    thrown(INDEX, () -> new KnotLaboratory().isOver(0));
    lab.switchCrossing(0);
    due(lab.isOver(0), false);
    due(lab.isOver(3), true);
  }

  private static void promise14() {
    KnotLaboratory lab = after("curl 0+o;curl 1-u;poke 0 0=-");
    boolean[] positive = {true, false, false, true};
    for (int crossing = 0; crossing < 4; crossing++) {
      due(lab.isPositive(crossing), positive[crossing]);
    }
    thrown(INDEX, () -> lab.isPositive(4));
    for (int crossing : FAR) {
      thrown(INDEX, () -> lab.isPositive(crossing));
    }
    thrown(INDEX, () -> new KnotLaboratory().isPositive(0));
  }

  private static void promise15() {
    KnotLaboratory lab = after("curl 0+o;curl 1-u;curl 4-o");
    due(lab.overPosition(0), 0);
    due(lab.overPosition(1), 2);
    due(lab.overPosition(2), 4);
    thrown(INDEX, () -> lab.overPosition(3));
    for (int crossing : FAR) {
      thrown(INDEX, () -> lab.overPosition(crossing));
    }
    thrown(INDEX, () -> full().overPosition(7));
    thrown(INDEX, () -> new KnotLaboratory().overPosition(0));
  }

  private static void promise16() {
    KnotLaboratory lab = after("curl 0+o;curl 1-u;curl 4-o");
    due(lab.underPosition(0), 3);
    due(lab.underPosition(1), 1);
    due(lab.underPosition(2), 5);
    thrown(INDEX, () -> lab.underPosition(3));
    for (int crossing : FAR) {
      thrown(INDEX, () -> lab.underPosition(crossing));
    }
    thrown(INDEX, () -> full().underPosition(7));
    thrown(INDEX, () -> new KnotLaboratory().underPosition(0));
  }

  private static void promise17() {
    due(new KnotLaboratory().writhe(), 0);
    due(after("curl 0+o;curl 1+u;curl 2-o").writhe(), 1);
    due(after("curl 0-o;curl 1-u").writhe(), -2);
    due(after("poke 0 0=+").writhe(), 0);
    due(torus(3).writhe(), 3);
  }

  private static void promise18() {
    KnotLaboratory lab = after("curl 0+o;curl 1-u;curl 1+o");
    due(diagram(lab), "o0+ o2+ u2+ u1- o1- u0+");
    // The first and the last pass are neighbours around the circle.
    due(lab.isCurl(0), true);
    due(lab.isCurl(1), true);
    due(lab.isCurl(2), true);
    lab.addCurl(0, true, true);
    due(lab.isCurl(0), false);
    due(lab.isCurl(3), true);
    thrown(INDEX, () -> lab.isCurl(4));
    for (int crossing : FAR) {
      thrown(INDEX, () -> lab.isCurl(crossing));
    }
    thrown(INDEX, () -> new KnotLaboratory().isCurl(0));
    due(after("curl 0-u").isCurl(0), true);
    due(torus(3).isCurl(0), false);
    due(torus(3).isCurl(1), false);
    due(torus(3).isCurl(2), false);
  }

  private static void promise19() {
    KnotLaboratory lab = after("curl 0+o;poke 1 2=-;curl 6+u");
    due(lab.isPoke(1, 2), true);
    due(lab.isPoke(2, 1), true);
    due(lab.isPoke(0, 1), true);
    due(lab.isPoke(0, 2), false);
    due(lab.isPoke(0, 3), false);
    due(lab.isPoke(2, 3), false);
    due(lab.isPoke(1, 1), false);
    due(lab.isPoke(0, 0), false);
    thrown(INDEX, () -> lab.isPoke(4, 0));
    thrown(INDEX, () -> lab.isPoke(0, 4));
    thrown(INDEX, () -> lab.isPoke(-1, 0));
    thrown(INDEX, () -> lab.isPoke(0, Integer.MIN_VALUE));
    thrown(INDEX, () -> new KnotLaboratory().isPoke(0, 0));
    due(after("poke 0 0x+").isPoke(0, 1), true);
    due(after("poke 0 0=+;turn 1").isPoke(0, 1), true);
    due(after("poke 0 0=+;turn 3").isPoke(0, 1), true);
    // The passes are neighbours, but the signs are the same.
    due(after("poke 0 0=+;switch 0").isPoke(0, 1), false);
    due(after("curl 0+o;curl 1+o").isPoke(0, 1), false);
    due(after("curl 0+o;curl 1-o").isPoke(0, 1), true);
    // Only the passes over are neighbours.
    due(after("poke 0 0=+;curl 3+o").isPoke(0, 1), false);
    // Only the passes under are neighbours.
    due(after("poke 0 0=+;curl 1+o").isPoke(0, 1), false);
  }

  private static void promise20() {
    due(new KnotLaboratory().isAlternating(), true);
    due(after("curl 0+o").isAlternating(), true);
    due(after("curl 0+o;curl 2+o").isAlternating(), true);
    due(after("curl 0+u;curl 2-u").isAlternating(), true);
    due(after("curl 0+o;curl 2+u").isAlternating(), false);
    due(after("poke 0 0=+").isAlternating(), false);
    due(torus(3).isAlternating(), true);
    due(full().isAlternating(), false);
  }

  private static void promise21() {
    due(new KnotLaboratory().reducedCrossings(), 0);
    KnotLaboratory lab = after("curl 0+o;poke 1 2=-;switch 1;curl 0+u;curl 3-u");
    String before = diagram(lab);
    due(lab.reducedCrossings(), 3);
    due(diagram(lab), before);
    due(full().reducedCrossings(), 0);
    thrown(ELEMENT, () -> {
      KnotLaboratory empty = new KnotLaboratory();
      empty.reducedCrossings();
      return empty.undo();
    });
  }

  private static void promise22() {
    KnotLaboratory lab = after("curl 0+o;poke 1 2=-;curl 1+u");
    due(diagram(lab), "o0+ u3+ o3+ o1- o2+ u0+ u1- u2+");
    // Between the passes are 2 (0), 2 (1), 2 (2) and 0 (3) passes.
    int[] order = {3, 0, 1, 2};
    for (int rank = 0; rank < 4; rank++) {
      due(lab.crossingByChord(rank), order[rank]);
    }
    thrown(ELEMENT, () -> lab.crossingByChord(4));
    for (int rank : FAR) {
      thrown(ELEMENT, () -> lab.crossingByChord(rank));
    }
    thrown(ELEMENT, () -> new KnotLaboratory().crossingByChord(0));
    // Around the end of the circle, the way between the passes of 0 is the shortest one.
    KnotLaboratory round = after("poke 0 0=+;curl 1+o;turn 1;curl 3-o;curl 4-o");
    due(diagram(round), "o2+ u2+ o1- o3- o4- u4- u3- u0+ u1- o0+");
    int[] far = {2, 4, 0, 3, 1};
    for (int rank = 0; rank < 5; rank++) {
      due(round.crossingByChord(rank), far[rank]);
    }
  }

  private static void promise23() {
    due(new KnotLaboratory().arcCount(), 1);
    due(after("curl 0+o").arcCount(), 1);
    due(after("poke 0 0=+").arcCount(), 2);
    due(full().arcCount(), 7);
  }

  private static void promise24() {
    KnotLaboratory lab = after("curl 0+o;poke 1 2=-;curl 4+u");
    due(diagram(lab), "o0+ o1- o2+ u0+ u3+ o3+ u1- u2+");
    int[] arcs = {3, 3, 3, 0, 1, 1, 2, 3};
    for (int position = 0; position < 8; position++) {
      due(lab.arcAt(position), arcs[position]);
    }
    thrown(INDEX, () -> lab.arcAt(8));
    for (int position : FAR) {
      thrown(INDEX, () -> lab.arcAt(position));
    }
    thrown(INDEX, () -> new KnotLaboratory().arcAt(0));
    due(after("curl 0+o").arcAt(0), 0);
    due(after("curl 0+u").arcAt(1), 0);
  }

  private static void promise25() {
    KnotLaboratory empty = new KnotLaboratory();
    due(empty.colourings(3), 3);
    due(empty.colourings(5), 5);
    due(empty.colourings(7), 7);
    for (int prime : new int[] {Integer.MIN_VALUE, -3, 0, 1, 2, 4, 6, 8, 11, Integer.MAX_VALUE}) {
      thrown(ARGUMENT, () -> empty.colourings(prime));
    }
    due(after("curl 0+o").colourings(7), 7);
    due(torus(3).colourings(3), 9);
    due(torus(3).colourings(5), 5);
    due(torus(3).colourings(7), 7);
    due(torus(5).colourings(5), 25);
    due(torus(5).colourings(3), 3);
    due(torus(5).colourings(7), 7);
    due(torus(7).colourings(7), 49);
    due(torus(7).colourings(3), 3);
    due(torus(7).colourings(5), 5);
  }

  private static void promise26() {
    due(new KnotLaboratory().colouringsByTrying(), 3);
    due(after("curl 0-u").colouringsByTrying(), 3);
    due(full().colouringsByTrying(), 3);
    due(torus(3).colouringsByTrying(), 9);
    due(torus(5).colouringsByTrying(), 3);
    KnotLaboratory two = torus(3);
    two.addCurl(0, true, true);
    two.addPoke(1, 2, true, false);
    two.switchCrossing(4);
    due(two.crossingCount(), 6);
    due(two.colouringsByTrying(), 27);
    due(two.colourings(3), 27);
  }

  private static void promise27() {
    KnotLaboratory empty = new KnotLaboratory();
    due(empty.loops(0), 1);
    thrown(ARGUMENT, () -> empty.loops(1));
    thrown(ARGUMENT, () -> empty.loops(-1));
    KnotLaboratory curl = after("curl 0+o");
    due(curl.loops(0), 1);
    due(curl.loops(1), 2);
    thrown(ARGUMENT, () -> curl.loops(2));
    KnotLaboratory poke = after("poke 0 0=+");
    int[] counts = {2, 1, 1, 1};
    for (int along = 0; along < 4; along++) {
      due(poke.loops(along), counts[along]);
    }
    thrown(ARGUMENT, () -> poke.loops(4));
    // All along gives two circles, all across as many as there are crossings.
    KnotLaboratory knot = torus(3);
    int[] loops = {3, 2, 2, 1, 2, 1, 1, 2};
    for (int along = 0; along < 8; along++) {
      due(knot.loops(along), loops[along]);
    }
    thrown(ARGUMENT, () -> knot.loops(Integer.MIN_VALUE));
    thrown(ARGUMENT, () -> knot.loops(Integer.MAX_VALUE));
    due(full().loops(127), 8);
    due(full().loops(0), 1);
    thrown(ARGUMENT, () -> full().loops(128));
    due(after("curl 0+o;curl 1+u").loops(1), 2);
    due(after("curl 0+o;curl 1+u").loops(3), 3);
  }

  private static void promise28() {
    due(new KnotLaboratory().bracketCoefficient(0), 1);
    due(new KnotLaboratory().bracketCoefficient(2), 0);
    due(after("curl 0+o").bracketCoefficient(3), -1);
    due(after("curl 0+o").bracketCoefficient(-1), 0);
    due(after("curl 0-u").bracketCoefficient(-3), -1);
    // The bracket of a trefoil, -a^-5 - a^3 + a^7 or its mirror image.
    KnotLaboratory knot = torus(3);
    int[] exponents = {-7, -3, 5};
    int[] values = {1, -1, -1};
    for (int exponent = -50; exponent <= 50; exponent++) {
      int want = 0;
      for (int term = 0; term < 3; term++) {
        want += exponents[term] == exponent ? values[term] : 0;
      }
      due(knot.bracketCoefficient(exponent), want);
    }
    for (int exponent : new int[] {Integer.MIN_VALUE, -51, 51, Integer.MAX_VALUE}) {
      thrown(ARGUMENT, () -> knot.bracketCoefficient(exponent));
    }
    due(after("curl 0+o;curl 2+o;curl 4+o;curl 6+o", "curl 8+o;curl 0+o;curl 0+u")
        .bracketCoefficient(21), -1);
  }

  private static void promise29() {
    due(new KnotLaboratory().bracketCoefficientByResolving(0), 1);
    due(after("curl 0+o").bracketCoefficientByResolving(3), -1);
    due(after("curl 0-u").bracketCoefficientByResolving(-3), -1);
    KnotLaboratory knot = torus(7);
    for (int exponent = -50; exponent <= 50; exponent++) {
      due(knot.bracketCoefficientByResolving(exponent), knot.bracketCoefficient(exponent));
    }
    due(torus(3).bracketCoefficientByResolving(-7), 1);
    due(torus(3).bracketCoefficientByResolving(-3), -1);
    due(torus(3).bracketCoefficientByResolving(5), -1);
    due(torus(3).bracketCoefficientByResolving(3), 0);
    for (int exponent : new int[] {Integer.MIN_VALUE, -51, 51, Integer.MAX_VALUE}) {
      thrown(ARGUMENT, () -> knot.bracketCoefficientByResolving(exponent));
    }
  }

  private static void promise30() {
    due(new KnotLaboratory().coefficient(0), 1);
    due(after("curl 0+o").coefficient(0), 1);
    due(after("curl 0+o").coefficient(3), 0);
    KnotLaboratory knot = torus(3);
    due(knot.coefficient(-16), -1);
    due(knot.coefficient(-12), 1);
    due(knot.coefficient(-4), 1);
    due(knot.coefficient(-8), 0);
    due(knot.coefficient(50), 0);
    due(knot.coefficient(-50), 0);
    for (int exponent : new int[] {Integer.MIN_VALUE, -51, 51, Integer.MAX_VALUE}) {
      thrown(ARGUMENT, () -> knot.coefficient(exponent));
    }
    knot.mirror();
    due(knot.coefficient(16), -1);
    due(knot.coefficient(12), 1);
    due(knot.coefficient(4), 1);
    knot.addCurl(2, false, true);
    knot.addPoke(1, 6, false, true);
    due(polynomial(knot), "1a4 1a12 -1a16");
  }

  private static void promise31() {
    due(new KnotLaboratory().lowestExponent(), 0);
    due(full().lowestExponent(), 0);
    due(torus(3).lowestExponent(), -16);
    due(torus(5).lowestExponent(), -28);
    due(torus(7).lowestExponent(), -40);
    KnotLaboratory mirrored = torus(7);
    mirrored.mirror();
    due(mirrored.lowestExponent(), 12);
  }

  private static void promise32() {
    due(new KnotLaboratory().highestExponent(), 0);
    due(full().highestExponent(), 0);
    due(torus(3).highestExponent(), -4);
    due(torus(7).highestExponent(), -12);
    KnotLaboratory mirrored = torus(7);
    mirrored.mirror();
    due(mirrored.highestExponent(), 40);
  }

  private static void promise33() {
    due(new KnotLaboratory().isPolynomialTrivial(), true);
    due(full().isPolynomialTrivial(), true);
    due(after("poke 0 0x-;curl 3+o").isPolynomialTrivial(), true);
    due(torus(3).isPolynomialTrivial(), false);
    due(after("poke 0 0=+;switch 0").isPolynomialTrivial(), false);
  }

  private static void promise34() {
    due(new KnotLaboratory().value(true), 1.0);
    due(new KnotLaboratory().value(false), 1.0);
    due(torus(3).value(false), 4112.0 - 65536.0);
    due(torus(3).value(true), 0.0625 + 0.000244140625 - 0.0000152587890625);
    due(after("poke 0 0=+;switch 0").value(true), -944.0);
    due(after("poke 0 0=+;switch 0").value(false), 0.0771484375);
    KnotLaboratory far = torus(7);
    double low = 0;
    for (int exponent = -50; exponent <= 50; exponent++) {
      low += (double) far.coefficient(exponent) * Math.pow(0.5, exponent);
    }
    due(far.value(false), low);
  }

  private static void promise35() {
    due(new KnotLaboratory().isPlainlyUnknotted(), true);
    due(full().isPlainlyUnknotted(), true);
    due(after("poke 0 0=+;curl 2+o").isPlainlyUnknotted(), true);
    KnotLaboratory knot = torus(3);
    due(knot.isPlainlyUnknotted(), false);
    due(knot.crossingCount(), 3);
    knot.switchCrossing(0);
    due(knot.isPlainlyUnknotted(), true);
    due(knot.crossingCount(), 3);
  }

  // No call of these tests makes switches() throw: a diagram that comes about by the moves always
  // has switches that unknot it plainly (NOTES.md says why).
  private static void promise36() {
    due(new KnotLaboratory().switches(), 0);
    due(full().switches(), 0);
    due(torus(3).switches(), 1);
    due(torus(5).switches(), 2);
    due(torus(7).switches(), 3);
    KnotLaboratory knot = torus(7);
    String before = diagram(knot);
    knot.switches();
    due(diagram(knot), before);
  }

  private static void promise37() {
    due(new KnotLaboratory().switchesByDepth(), 0);
    due(full().switchesByDepth(), 0);
    due(torus(3).switchesByDepth(), 1);
    due(torus(5).switchesByDepth(), 2);
    due(torus(7).switchesByDepth(), 3);
    KnotLaboratory knot = torus(5);
    String before = diagram(knot);
    knot.switchesByDepth();
    due(diagram(knot), before);
  }

  private static void promise38() {
    due(new KnotLaboratory().firstSwitch(), -1);
    due(full().firstSwitch(), -1);
    due(torus(3).firstSwitch(), 0);
    due(torus(7).firstSwitch(), 0);
    // The curl 0 is not part of a smallest set.
    KnotLaboratory knot = new KnotLaboratory();
    knot.addCurl(0, true, true);
    knot.addCurl(2, true, true);
    knot.addPoke(3, 4, true, false);
    knot.switchCrossing(2);
    due(knot.switches(), 1);
    due(knot.firstSwitch(), 1);
    // Of the smallest sets the one with the lowest sum does not have the lowest crossing.
    KnotLaboratory several = after("poke 0 0=+;poke 0 2=+;poke 6 0=+;switch 3;switch 4");
    due(pairsThatUnknot(several), " 12 13 04 24 34 05 25 35");
    due(several.switches(), 2);
    due(several.firstSwitch(), 1);
  }

  private static String pairsThatUnknot(KnotLaboratory lab) {
    StringBuilder pairs = new StringBuilder();
    for (int high = 1; high < lab.crossingCount(); high++) {
      for (int low = 0; low < high; low++) {
        lab.switchCrossing(low);
        lab.switchCrossing(high);
        pairs.append(lab.isPlainlyUnknotted() ? " " + low + high : "");
        lab.switchCrossing(high);
        lab.switchCrossing(low);
      }
    }
    return pairs.toString();
  }

  private static void promise39() {
    KnotLaboratory lab = new KnotLaboratory();
    for (int player = 0; player < 4; player++) {
      due(lab.addPlayer(), player);
      due(lab.coins(player), 100);
      int index = player;
      thrown(ELEMENT, () -> lab.guess(index));
    }
    thrown(STATE, lab::addPlayer);
    due(lab.playerCount(), 4);
    due(lab.undo(), 3);
    due(lab.addPlayer(), 3);
  }

  private static void promise40() {
    KnotLaboratory lab = after("player;player");
    for (int player : new int[] {Integer.MIN_VALUE, -1, 2, 4, Integer.MAX_VALUE}) {
      thrown(INDEX, () -> lab.bet(player, 8, 0));
    }
    for (int wrong : new int[] {Integer.MIN_VALUE, -1, 8, Integer.MAX_VALUE}) {
      thrown(ARGUMENT, () -> lab.bet(0, wrong, 1));
    }
    for (int wrong : new int[] {Integer.MIN_VALUE, -1, 0, 100, Integer.MAX_VALUE}) {
      thrown(ARGUMENT, () -> lab.bet(0, 0, wrong));
    }
    due(lab.bet(0, 0, 99), 1);
    due(lab.guess(0), 0);
    thrown(STATE, () -> lab.bet(0, 0, 1));
    thrown(STATE, () -> lab.bet(0, 0, 99));
    thrown(ARGUMENT, () -> lab.bet(0, 8, 1));
    thrown(ARGUMENT, () -> lab.bet(0, 1, 100));
    due(lab.bet(1, 7, 1), 99);
    due(lab.guess(1), 7);
    due(lab.pot(), 100);
    due(lab.settle(), 1);
    due(lab.coins(0), 200 - 99);
    due(lab.coins(1), 99);
    due(lab.bet(1, 1, 98), 1);
    lab.settle();
    due(lab.coins(1), 1);
    thrown(UNSUPPORTED, () -> lab.bet(1, 1, 2));
    thrown(ARGUMENT, () -> lab.bet(1, 1, 0));
    due(lab.bet(1, 1, 1), 0);
    thrown(STATE, () -> lab.bet(1, 1, 2));
  }

  private static void promise41() {
    KnotLaboratory lab = new KnotLaboratory();
    thrown(STATE, lab::settle);
    run(lab, "player;player;player;player");
    thrown(STATE, lab::settle);
    run(lab, "bet 0 0:10;bet 1 1:20;bet 2 0:11");
    due(lab.settle(), 2);
    // 41 coins are divided into 20 each, and 1 is left for the house.
    due(lab.coins(0), 110);
    due(lab.coins(1), 80);
    due(lab.coins(2), 109);
    due(lab.coins(3), 100);
    due(lab.house(), 1);
    due(lab.pot(), 0);
    thrown(ELEMENT, () -> lab.guess(0));
    thrown(STATE, lab::settle);
    run(lab, "bet 0 1:10;bet 3 7:5");
    due(lab.settle(), 0);
    due(lab.house(), 16);
    due(lab.coins(0), 100);
    due(lab.coins(3), 95);
    run(lab, "curl 0+o;poke 1 2=-;switch 1");
    run(lab, "bet 0 1:10;bet 1 0:5");
    due(lab.settle(), 1);
    due(lab.coins(0), 105);
    due(lab.coins(1), 75);
    // The guess of a settled bet counts no more, and a stake of 1 is a bet.
    run(lab, "bet 1 0:5;bet 2 1:1");
    due(lab.settle(), 1);
    due(lab.coins(0), 105);
    due(lab.coins(2), 109 - 1 + 6);
  }

  private static void promise42() {
    KnotLaboratory lab = new KnotLaboratory();
    due(lab.playerCount(), 0);
    lab.addPlayer();
    due(lab.playerCount(), 1);
    run(lab, "player;player;player");
    due(lab.playerCount(), 4);
  }

  private static void promise43() {
    KnotLaboratory lab = after("player;player;bet 1 3:40");
    due(lab.coins(0), 100);
    due(lab.coins(1), 60);
    for (int player : new int[] {Integer.MIN_VALUE, -1, 2, 3, 4, Integer.MAX_VALUE}) {
      thrown(INDEX, () -> lab.coins(player));
    }
    thrown(INDEX, () -> new KnotLaboratory().coins(0));
  }

  private static void promise44() {
    KnotLaboratory lab = after("player;player;bet 1 3:40");
    due(lab.guess(1), 3);
    thrown(ELEMENT, () -> lab.guess(0));
    for (int player : new int[] {Integer.MIN_VALUE, -1, 2, 3, 4, Integer.MAX_VALUE}) {
      thrown(INDEX, () -> lab.guess(player));
    }
    lab.settle();
    thrown(ELEMENT, () -> lab.guess(1));
  }

  private static void promise45() {
    KnotLaboratory lab = after("player;player");
    due(lab.pot(), 0);
    run(lab, "bet 1 3:40");
    due(lab.pot(), 40);
    run(lab, "bet 0 3:99");
    due(lab.pot(), 139);
    lab.settle();
    due(lab.pot(), 0);
  }

  private static void promise46() {
    KnotLaboratory lab = after("player;player;bet 1 3:40");
    due(lab.house(), 0);
    lab.settle();
    due(lab.house(), 40);
    run(lab, "bet 0 0:7;settle");
    due(lab.house(), 40);
    run(lab, "bet 0 1:7;settle");
    due(lab.house(), 47);
    lab.undo();
    due(lab.house(), 40);
  }

  private static void promise47() {
    KnotLaboratory lab = after("player;player;player;player", "bet 0 1:30;bet 2 1:20");
    int[] order = {1, 3, 2, 0};
    for (int rank = 0; rank < 4; rank++) {
      due(lab.playerByCoins(rank), order[rank]);
    }
    for (int rank : new int[] {Integer.MIN_VALUE, -1, 4, Integer.MAX_VALUE}) {
      thrown(ELEMENT, () -> lab.playerByCoins(rank));
    }
    thrown(ELEMENT, () -> new KnotLaboratory().playerByCoins(0));
    KnotLaboratory same = after("player;player;player");
    due(same.playerByCoins(0), 0);
    due(same.playerByCoins(1), 1);
    due(same.playerByCoins(2), 2);
    thrown(ELEMENT, () -> same.playerByCoins(3));
  }

  private static void promise48() {
    KnotLaboratory lab = after("player;player;player");
    thrown(ARITHMETIC, () -> lab.stakeShare(0));
    thrown(INDEX, () -> lab.stakeShare(3));
    run(lab, "bet 0 1:10;bet 1 2:20");
    due(lab.stakeShare(0), 10f / 30f);
    due(lab.stakeShare(1), 20f / 30f);
    due(lab.stakeShare(2), 0f);
    for (int player : new int[] {Integer.MIN_VALUE, -1, 3, 4, Integer.MAX_VALUE}) {
      thrown(INDEX, () -> lab.stakeShare(player));
    }
    lab.settle();
    thrown(ARITHMETIC, () -> lab.stakeShare(1));
    thrown(INDEX, () -> new KnotLaboratory().stakeShare(0));
  }

  private static void promise49() {
    due(new KnotLaboratory().isConsistent(), true);
    due(full().isConsistent(), true);
    due(torus(7).isConsistent(), true);
    KnotLaboratory lab = torus(3);
    run(lab, "player;player;bet 0 1:30");
    due(lab.isConsistent(), true);
    run(lab, "bet 1 1:31;settle");
    due(lab.isConsistent(), true);
    run(lab, "bet 1 5:31;settle;player");
    due(lab.isConsistent(), true);
  }

  private static void promise50() {
    KnotLaboratory lab = after("poke 0 0x-");
    due(lab.renderDiagram(), 15);
    due(output(lab, 15), "o0- o1+ u1+ u0-");
    thrown(INDEX, () -> lab.outputAt(15));
    lab.reduce();
    due(lab.outputAt(0), 'o');
    due(lab.renderDiagram(), 0);
    thrown(INDEX, () -> lab.outputAt(0));
    due(full().renderDiagram(), 55);
    due(diagram(full()), "o0+ u0+ u1- o1- o2+ u2+ u3- o3- o4+ u4+ u5- o5- o6+ u6+");
  }

  private static void promise51() {
    KnotLaboratory lab = torus(3);
    due(lab.renderPolynomial(), 17);
    due(output(lab, 17), "-1a-16 1a-12 1a-4");
    lab.mirror();
    due(lab.renderPolynomial(), 14);
    due(output(lab, 14), "1a4 1a12 -1a16");
    thrown(INDEX, () -> lab.outputAt(14));
    due(polynomial(new KnotLaboratory()), "1a0");
    due(polynomial(after("poke 0 0=+;switch 0")), "1a4 1a6 -1a10");
  }

  private static void promise52() {
    KnotLaboratory lab = after("poke 0 0=+");
    thrown(INDEX, () -> lab.outputAt(0));
    lab.renderDiagram();
    due(lab.outputAt(0), 'o');
    due(lab.outputAt(2), '+');
    due(lab.outputAt(3), ' ');
    due(lab.outputAt(14), '-');
    for (int index : new int[] {Integer.MIN_VALUE, -1, 15, Integer.MAX_VALUE}) {
      thrown(INDEX, () -> lab.outputAt(index));
    }
    lab.undo();
    due(lab.outputAt(14), '-');
    lab.renderPolynomial();
    due(lab.outputAt(2), '0');
    thrown(INDEX, () -> lab.outputAt(3));
  }

  private static void promise53() {
    KnotLaboratory lab = new KnotLaboratory();
    for (int code : new int[] {0, 10, 31, 127, 128, 255, 65535}) {
      thrown(ARGUMENT, () -> lab.type((char) code));
    }
    due(lab.type(' '), 1);
    due(lab.type('~'), 2);
    for (int length = 3; length <= 60; length++) {
      due(lab.type(';'), length);
    }
    thrown(STATE, () -> lab.type('x'));
    thrown(ARGUMENT, () -> lab.type((char) 31));
    thrown(ARGUMENT, lab::runScript);
    due(lab.type('x'), 1);
  }

  private static void promise54() {
    KnotLaboratory lab = new KnotLaboratory();
    due(run(lab, "curl 0+o;curl 2-u;curl 00-o;curl 1+u"), 4);
    due(diagram(lab), "o2- u3+ o3+ u2- o0+ u0+ u1- o1-");
    due(run(lab, "uncurl 3;turn 05;reverse"), 3);
    due(diagram(lab), "u1- u0+ o0+ u2- o2- o1-");
    due(run(lab, "reduce;poke 0 0=-;poke 1 3x+"), 3);
    due(diagram(lab), "o0- o2+ o3- o1+ u0- u3- u2+ u1+");
    due(run(lab, "unpoke 3 2;mirror;switch 1"), 3);
    due(diagram(lab), "u0+ o1+ o0+ u1+");
    due(run(lab, "player;player;bet 1 7:99;bet 0 1:3"), 4);
    due(lab.guess(1), 7);
    due(lab.pot(), 102);
    due(run(lab, "settle"), 1);
    due(lab.coins(0), 199);
    // Nothing of a failed script stays, and it is no change.
    String before = diagram(lab);
    thrown(STATE, () -> run(lab, "player;bet 2 1:5;mirror;curl 9+o;reduce"));
    due(lab.failedCommand(), 3);
    due(diagram(lab), before);
    due(lab.playerCount(), 2);
    due(lab.pot(), 0);
    due(lab.undo(), 5);
    due(lab.coins(0), 97);
    due(lab.undo(), 4);
    due(lab.playerCount(), 0);
    thrown(ARGUMENT, lab::runScript);
    failingCommands();
  }

  /** Each reason for which the method of a command throws makes the script fail. */
  private static void failingCommands() {
    String[] lines = {"curl 5+o", "uncurl 2", "uncurl 0", "poke 5 0=+", "poke 0 99x-", "unpoke 0 2",
        "unpoke 0 0", "switch 2", "turn 4", "bet 1 0:1", "bet 0 8:1", "bet 0 9:1", "bet 0 0:0",
        "bet 0 0:1;bet 0 0:1", "bet 0 0:80;settle;bet 0 0:99;bet 0 1:1", "settle",
        "player;player;player;player", "poke 0 0=+;poke 0 0=+;poke 0 0=+",
        "poke 0 0=+;poke 0 0=+;curl 0+o;curl 0+o", "bet 0 5:60;settle;bet 0 5:41"};
    int[] failedAt = {0, 0, 0, 0, 0, 0, 0, 0, 0, 0, 0, 0, 0, 1, 2, 0, 3, 2, 3, 2};
    for (int line = 0; line < lines.length; line++) {
      KnotLaboratory lab = after("poke 0 0=+;switch 0;player");
      String script = lines[line];
      thrown(STATE, () -> run(lab, script));
      due(lab.failedCommand(), failedAt[line]);
      due(lab.crossingCount(), 2);
      due(lab.pot(), 0);
      due(lab.coins(0), 100);
      due(lab.undo(), 0);
    }
  }

  private static void promise55() {
    KnotLaboratory lab = new KnotLaboratory();
    thrown(ELEMENT, lab::errorPosition);
    run(lab, "mirror");
    thrown(ELEMENT, lab::errorPosition);
    String[] scripts = {"", "?", "un", "unc", "unx", "unpoke 1", "unpoke 1 ", "unpoke 12",
        "curl 0+x", "curl 123+o", "curl +o", "curl 1", "curl 12", "curl 1 +", "poke 1 2", "poke 1=",
        "poke 11 22x+;", "poke 1 2=o", "poke  1", "bet 0 12:3", "bet 0 1:123", "bet 0 1:", "bet 01",
        "mirror;", "mirror;;", ";mirror", "mirror ", "mirrors", "Mirror", "re", "rev", "rex",
        "reduce;reverse;rer", "turn 5;turn 123", "turn", "turn -1", "s", "se", "sw", "sx",
        "settle 1",
        "p", "pl", "po", "pu", "player;bet 0 0:1;switch a", "switch 12", "reduced", "uncurl  1"};
    int[] errors = {0, 0, 2, 3, 2, 8, 9, 8,
        7, 7, 5, 6, 7, 6, 8, 6,
        13, 9, 5, 7, 10, 8, 5,
        7, 7, 0, 6, 6, 0, 2, 3, 2,
        17, 14, 4, 5, 1, 2, 2, 1, 6,
        1, 2, 2, 1, 24, 8, 6, 7};
    for (int index = 0; index < scripts.length; index++) {
      String script = scripts[index];
      KnotLaboratory fresh = after("mirror");
      thrown(ARGUMENT, () -> run(fresh, script));
      due(fresh.errorPosition(), errors[index]);
      due(fresh.crossingCount(), 0);
      due(fresh.undo(), 0);
      thrown(ELEMENT, fresh::failedCommand);
    }
    thrown(ARGUMENT, () -> run(lab, "curl 0+x"));
    run(lab, "curl 0+o");
    thrown(STATE, () -> run(lab, "uncurl 5"));
    lab.undo();
    due(lab.errorPosition(), 7);
    String full = "mirror;mirror;mirror;mirror;mirror;mirror;mirror;mirror;mirr";
    thrown(ARGUMENT, () -> run(lab, full));
    due(lab.errorPosition(), 60);
    due(run(lab, full.substring(0, 55)), 8);
  }

  private static void promise56() {
    KnotLaboratory lab = new KnotLaboratory();
    thrown(ELEMENT, lab::failedCommand);
    thrown(ARGUMENT, () -> run(lab, "uncurl"));
    thrown(ELEMENT, lab::failedCommand);
    thrown(STATE, () -> run(lab, "curl 0+o;player;uncurl 1;uncurl 0"));
    due(lab.failedCommand(), 2);
    run(lab, "curl 0+o");
    thrown(ARGUMENT, () -> run(lab, "x"));
    due(lab.failedCommand(), 2);
    thrown(STATE, () -> run(lab, "uncurl 9"));
    due(lab.failedCommand(), 0);
    thrown(STATE, () -> run(lab, "settle"));
    due(lab.undo(), 0);
    due(lab.failedCommand(), 0);
  }

  private static void promise57() {
    KnotLaboratory lab = new KnotLaboratory();
    thrown(ELEMENT, lab::undo);
    lab.addCurl(0, true, true);
    lab.addPoke(0, 1, true, true);
    lab.switchCrossing(0);
    lab.mirror();
    lab.reverse();
    lab.turn(3);
    lab.addPlayer();
    lab.bet(0, 1, 50);
    due(lab.undo(), 7);
    due(lab.coins(0), 100);
    due(lab.pot(), 0);
    due(lab.undo(), 6);
    due(lab.playerCount(), 0);
    lab.reduce();
    lab.addPlayer();
    due(lab.undo(), 7);
    due(lab.undo(), 6);
    String turned = diagram(lab);
    due(lab.undo(), 5);
    due(diagram(lab).equals(turned), false);
    due(lab.undo(), 4);
    due(lab.undo(), 3);
    due(lab.undo(), 2);
    due(diagram(lab), "o1+ o2- o0+ u1+ u2- u0+");
    due(lab.undo(), 1);
    due(diagram(lab), "o0+ u0+");
    due(lab.undo(), 0);
    due(lab.crossingCount(), 0);
    thrown(ELEMENT, lab::undo);
    onlyEightAreKept();
    whatIsNoChange();
    eachChangeIsUndone();
  }

  private static void eachChangeIsUndone() {
    KnotLaboratory lab = after("poke 0 0=+;poke 4 4x-;switch 3;curl 8-u;curl 0+o");
    run(lab, "player;player;player;bet 0 1:30;bet 1 2:1");
    List<Call> changes = List.of(() -> lab.addCurl(3, true, false), () -> lab.removeCurl(5),
        () -> lab.addPoke(0, 0, true, true), () -> lab.removePoke(0, 1),
        () -> lab.switchCrossing(2), lab::mirror, lab::reverse, () -> lab.turn(4), lab::reduce,
        lab::addPlayer, () -> lab.bet(2, 7, 99), lab::settle,
        () -> run(lab, "mirror;player;settle;turn 1"));
    for (int index = 0; index < changes.size(); index++) {
      if (index == 2) {
        lab.removeCurl(5);
      }
      String before = everything(lab);
      Call change = changes.get(index);
      due(outcome(change) instanceof Class, false);
      due(everything(lab).equals(before), false);
      due(lab.undo(), index < 2 ? 2 : 3);
      due(everything(lab), before);
    }
  }

  /** The diagram and the bets as a text. */
  private static String everything(KnotLaboratory lab) {
    StringBuilder all = new StringBuilder(diagram(lab));
    all.append(" house ").append(lab.house());
    for (int player = 0; player < lab.playerCount(); player++) {
      int index = player;
      all.append(" coins ").append(lab.coins(player));
      all.append(" guess ").append(outcome(() -> lab.guess(index)));
      all.append(" pot ").append(lab.pot());
    }
    return all.toString();
  }

  private static void onlyEightAreKept() {
    KnotLaboratory lab = new KnotLaboratory();
    for (int change = 0; change < 4; change++) {
      lab.addPlayer();
    }
    for (int change = 0; change < 7; change++) {
      lab.addCurl(0, true, true);
    }
    thrown(STATE, () -> lab.addCurl(0, true, true));
    thrown(STATE, () -> run(lab, "mirror;settle"));
    for (int left = 7; left >= 0; left--) {
      due(lab.undo(), left);
      due(lab.crossingCount(), Math.max(0, left - 1));
    }
    due(lab.playerCount(), 3);
    thrown(ELEMENT, lab::undo);
    due(lab.playerCount(), 3);
  }

  private static void whatIsNoChange() {
    KnotLaboratory lab = after("curl 0+o");
    thrown(INDEX, () -> lab.removeCurl(1));
    thrown(INDEX, () -> lab.turn(2));
    thrown(STATE, lab::settle);
    lab.save();
    lab.type('m');
    lab.renderDiagram();
    lab.isConsistent();
    lab.switches();
    due(lab.undo(), 0);
    due(lab.type('i'), 2);
    due(lab.outputAt(6), '+');
    due(lab.restore(), 1);
  }

  private static void promise58() {
    KnotLaboratory lab = new KnotLaboratory();
    due(lab.save(), 0);
    run(lab, "curl 0+o;player;bet 0 1:9");
    due(lab.save(), 1);
    run(lab, "curl 0-o;settle");
    due(lab.restore(), 1);
    due(diagram(lab), "o0+ u0+");
    due(lab.pot(), 9);
    due(lab.guess(0), 1);
    due(lab.house(), 0);
  }

  private static void promise59() {
    KnotLaboratory lab = new KnotLaboratory();
    thrown(STATE, lab::restore);
    run(lab, "poke 0 0=+;player;bet 0 3:20");
    lab.save();
    run(lab, "settle;player;switch 1");
    lab.renderDiagram();
    typeAll(lab, "mir");
    due(lab.restore(), 2);
    due(lab.outputAt(0), 'o');
    due(typeAll(lab, "ror"), 6);
    due(lab.house(), 0);
    due(lab.playerCount(), 1);
    due(lab.coins(0), 80);
    due(lab.guess(0), 3);
    due(diagram(lab), "o0+ o1- u0+ u1-");
    thrown(ELEMENT, lab::undo);
    due(lab.runScript(), 1);
    due(lab.undo(), 0);
    lab.reduce();
    due(lab.restore(), 2);
    due(lab.crossingCount(), 2);
    thrown(ELEMENT, lab::undo);
  }

  private static void testAll() {
    Runnable[] promises = {
      PromiseTest::promise01, PromiseTest::promise02, PromiseTest::promise03,
      PromiseTest::promise04, PromiseTest::promise05, PromiseTest::promise06,
      PromiseTest::promise07, PromiseTest::promise08, PromiseTest::promise09,
      PromiseTest::promise10, PromiseTest::promise11, PromiseTest::promise12,
      PromiseTest::promise13, PromiseTest::promise14, PromiseTest::promise15,
      PromiseTest::promise16, PromiseTest::promise17, PromiseTest::promise18,
      PromiseTest::promise19, PromiseTest::promise20, PromiseTest::promise21,
      PromiseTest::promise22, PromiseTest::promise23, PromiseTest::promise24,
      PromiseTest::promise25, PromiseTest::promise26, PromiseTest::promise27,
      PromiseTest::promise28, PromiseTest::promise29, PromiseTest::promise30,
      PromiseTest::promise31, PromiseTest::promise32, PromiseTest::promise33,
      PromiseTest::promise34, PromiseTest::promise35, PromiseTest::promise36,
      PromiseTest::promise37, PromiseTest::promise38, PromiseTest::promise39,
      PromiseTest::promise40, PromiseTest::promise41, PromiseTest::promise42,
      PromiseTest::promise43, PromiseTest::promise44, PromiseTest::promise45,
      PromiseTest::promise46, PromiseTest::promise47, PromiseTest::promise48,
      PromiseTest::promise49, PromiseTest::promise50, PromiseTest::promise51,
      PromiseTest::promise52, PromiseTest::promise53, PromiseTest::promise54,
      PromiseTest::promise55, PromiseTest::promise56, PromiseTest::promise57,
      PromiseTest::promise58, PromiseTest::promise59,
    };
    for (int index = 0; index < promises.length; index++) {
      about = "promise " + (index + 1);
      promises[index].run();
    }
  }

  public static void main(String[] args) {
    testAll();
    finish("promises");
  }
}
