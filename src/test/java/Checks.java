/** What the tests share: comparing answers, running scripts, reading the output, some diagrams. */
abstract class Checks {
  static final Class<?> INDEX = IndexOutOfBoundsException.class;
  static final Class<?> ARGUMENT = IllegalArgumentException.class;
  static final Class<?> STATE = IllegalStateException.class;
  static final Class<?> UNSUPPORTED = UnsupportedOperationException.class;
  static final Class<?> ELEMENT = java.util.NoSuchElementException.class;
  static final Class<?> ARITHMETIC = ArithmeticException.class;

  static String about = "";
  static int passed;
  static int failed;

  interface Call {
    Object make();
  }

  static void due(Object got, Object want) {
    if (got.equals(want)) {
      passed++;
      return;
    }
    failed++;
    System.out.println(about + ": " + got + ", due is " + want + lineOfTest());
  }

  static void thrown(Class<?> want, Call call) {
    due(outcome(call), want);
  }

  /** What a call returns, or the class of what it throws. */
  static Object outcome(Call call) {
    try {
      return call.make();
    } catch (RuntimeException e) {
      return e.getClass();
    }
  }

  static boolean returns(Call call) {
    return !(outcome(call) instanceof Class);
  }

  private static String lineOfTest() {
    for (StackTraceElement step : Thread.currentThread().getStackTrace()) {
      if (step.getClassName().endsWith("Test")) {
        return ", line " + step.getLineNumber();
      }
    }
    return "";
  }

  static int typeAll(KnotLaboratory lab, String script) {
    int length = 0;
    for (char character : script.toCharArray()) {
      length = lab.type(character);
    }
    return length;
  }

  static int run(KnotLaboratory lab, String script) {
    typeAll(lab, script);
    return lab.runScript();
  }

  /** A new laboratory after some scripts. */
  static KnotLaboratory after(String... scripts) {
    KnotLaboratory lab = new KnotLaboratory();
    for (String script : scripts) {
      run(lab, script);
    }
    return lab;
  }

  static String output(KnotLaboratory lab, int length) {
    StringBuilder text = new StringBuilder();
    for (int index = 0; index < length; index++) {
      text.append(lab.outputAt(index));
    }
    return text.toString();
  }

  static String diagram(KnotLaboratory lab) {
    return output(lab, lab.renderDiagram());
  }

  static String polynomial(KnotLaboratory lab) {
    return output(lab, lab.renderPolynomial());
  }

  /** Seven curls, one behind the other. */
  static KnotLaboratory full() {
    return after("curl 0+o;curl 2-u;curl 4+o;curl 6-u", "curl 8+o;curl 10-u;curl 12+o");
  }

  /** An odd number of positive crossings that alternate: o0 u1 o2 .. u0 o1 u2 .. */
  static KnotLaboratory torus(int crossings) {
    KnotLaboratory lab = new KnotLaboratory();
    lab.addCurl(0, true, true);
    for (int first = 1; first < crossings; first += 2) {
      lab.addPoke(first, 2 * first, true, false);
      lab.switchCrossing(first);
    }
    return lab;
  }

  static void finish(String what) {
    System.out.println(what + ": " + passed + " answers as due, " + failed + " not");
    if (failed > 0) {
      System.exit(1);
    }
  }
}
