import java.lang.reflect.InvocationTargetException;
import java.lang.reflect.Method;
import java.util.ArrayList;
import java.util.Arrays;
import java.util.Comparator;
import java.util.List;
import java.util.Random;

/** Long runs of calls with a fixed seed: the program must answer each as the model does. */
public final class ModelTest {
  private static final int RUNS = 400;
  // No object is called more than 512 times: telling everything takes some 420 calls.
  private static final int CALLS_OF_A_LONG_RUN = 440;
  private static final int CALLS_OF_A_TOLD_RUN = 40;
  private static final String[] LONG_LINES = {
    "curl 0+o", "curl 1-u", "poke 0 2=+", "poke 3 1x-", "switch 0", "mirror", "reverse", "turn 1",
    "reduce", "player", "bet 0 1:30", "bet 1 0:7", "settle", "uncurl 0", "unpoke 0 1", "turn 12"
  };

  private final Random random;
  private final KnotLaboratory lab = new KnotLaboratory();
  private final Model model = new Model();
  private final List<Method> changing = new ArrayList<>();
  private final List<Method> asking = new ArrayList<>();
  private final StringBuilder told = new StringBuilder();
  private int calls;

  private ModelTest(int seed) {
    random = new Random(seed);
    List<String> changes = List.of("addCurl", "removeCurl", "addPoke", "removePoke",
        "switchCrossing", "mirror", "reverse", "turn", "reduce", "addPlayer", "bet", "settle",
        "type", "runScript", "undo", "save", "restore");
    Method[] face = KnotLaboratory.class.getDeclaredMethods();
    Arrays.sort(face, Comparator.comparing(Method::getName));
    for (Method method : face) {
      if (java.lang.reflect.Modifier.isPublic(method.getModifiers())) {
        (changes.contains(method.getName()) ? changing : asking).add(method);
      }
    }
  }

  private static String answer(Object on, Method method, Object[] given) {
    try {
      Method own = on.getClass().getDeclaredMethod(method.getName(), method.getParameterTypes());
      return String.valueOf(own.invoke(on, given));
    } catch (InvocationTargetException e) {
      return e.getCause().getClass().getName();
    } catch (ReflectiveOperationException e) {
      throw new IllegalStateException(e);
    }
  }

  private boolean call(Method method, Object... given) {
    String got = answer(lab, method, given);
    String due = answer(model, method, given);
    calls++;
    told.append(method.getName()).append(Arrays.toString(given)).append(" -> ").append(got)
        .append('\n');
    if (!got.equals(due)) {
      System.out.println(told + "the last one should answer " + due);
    }
    return got.equals(due);
  }

  private boolean callByName(String name, Object... given) {
    for (Method method : changing) {
      if (method.getName().equals(name)) {
        return call(method, given);
      }
    }
    throw new IllegalStateException(name);
  }

  private int below(int bound) {
    return random.nextInt(Math.max(1, bound));
  }

  private int around(int bound) {
    return random.nextInt(15) > 0 ? below(bound) : random.nextBoolean() ? bound : -1;
  }

  private Object argument(Method method, Class<?> type, int index) {
    String name = method.getName();
    if (type == boolean.class) {
      return random.nextBoolean();
    }
    if (type == char.class) {
      return (char) (random.nextInt(20) == 0 ? random.nextInt(200) : 32 + random.nextInt(95));
    }
    if (random.nextInt(80) == 0) {
      return random.nextBoolean() ? Integer.MIN_VALUE : Integer.MAX_VALUE;
    }
    int passes = 2 * lab.crossingCount();
    switch (name) {
      case "colourings":
        return List.of(3, 3, 3, 5, 5, 2, 4, 7).get(random.nextInt(8));
      case "loops":
        return around(1 << lab.crossingCount());
      case "addCurl", "addPoke":
        return around(passes + 1);
      case "bet":
        return index == 0 ? around(lab.playerCount())
            : index == 1 ? random.nextInt(3) : random.nextInt(7) == 0 ? around(101) : below(60);
      case "coins", "guess", "stakeShare", "playerByCoins":
        return around(lab.playerCount());
      case "outputAt":
        return around(50);
      default:
        break;
    }
    if (name.toLowerCase().contains("coefficient")) {
      return random.nextInt(25) == 0 ? (random.nextBoolean() ? 51 : -51) : random.nextInt(61) - 30;
    }
    return around(name.endsWith("At") || name.equals("turn") ? passes : passes / 2);
  }

  /** Moves that make a diagram larger or more knotted come oftener than those that simplify it. */
  private boolean callAny() {
    int kind = random.nextInt(100);
    if (kind < 12) {
      return callRandomly("addPoke");
    }
    if (kind < 17) {
      return callRandomly("addCurl");
    }
    if (kind < 32) {
      return callRandomly("switchCrossing");
    }
    if (kind < 44) {
      return callRandomly(List.of("removeCurl", "removePoke", "turn", "reverse", "bet", "bet",
          "addPlayer", "settle").get(random.nextInt(8)));
    }
    if (kind < 46) {
      return callRandomly(List.of("undo", "undo", "undo", "reduce", "save", "restore", "mirror")
          .get(random.nextInt(7)));
    }
    if (kind == 46) {
      return calls > 300 || callScript();
    }
    return callRandomly(asking.get(random.nextInt(asking.size())));
  }

  private boolean callRandomly(String name) {
    for (Method method : changing) {
      if (method.getName().equals(name)) {
        return callRandomly(method);
      }
    }
    throw new IllegalStateException(name);
  }

  private boolean callRandomly(Method method) {
    Class<?>[] types = method.getParameterTypes();
    Object[] given = new Object[types.length];
    for (int index = 0; index < types.length; index++) {
      given[index] = argument(method, types[index], index);
    }
    return call(method, given);
  }

  private boolean callScript() {
    StringBuilder script = new StringBuilder();
    int lines = 1 + random.nextInt(4);
    for (int k = 0; k < lines; k++) {
      script.append(k == 0 ? "" : ";").append(LONG_LINES[random.nextInt(LONG_LINES.length)]);
    }
    if (random.nextInt(3) == 0) {
      int where = random.nextInt(script.length());
      script.setCharAt(where, "0123+-ou=x;: abrstu".charAt(random.nextInt(19)));
    }
    if (random.nextInt(6) == 0) {
      script.setLength(random.nextInt(script.length()));
    }
    boolean good = random.nextInt(4) == 0 || callByName("runScript");
    for (int k = 0; k < script.length(); k++) {
      good &= callByName("type", script.charAt(k));
    }
    return good && callByName("runScript");
  }

  /** Everything that the face tells without changing anything but the output text. */
  private String tell(Object on) throws ReflectiveOperationException {
    StringBuilder all = new StringBuilder();
    for (String render : List.of("renderDiagram", "renderPolynomial")) {
      Method method = KnotLaboratory.class.getMethod(render);
      int length = Integer.parseInt(answer(on, method, new Object[0]));
      for (int k = 0; k <= length; k++) {
        all.append(answer(on, KnotLaboratory.class.getMethod("outputAt", int.class),
            new Object[] {k}));
      }
      all.append('\n');
    }
    for (Method method : asking) {
      Class<?>[] types = method.getParameterTypes();
      boolean told = method.getName().equals("outputAt") || method.getName().startsWith("render");
      if (types.length == 0 && !told) {
        all.append(method.getName()).append(' ').append(answer(on, method, new Object[0]));
      }
      for (int k = -1; types.length == 1 && types[0] == int.class && !told && k < 16; k++) {
        boolean dear = method.getName().contains("oefficient") || k == 7;
        all.append(dear ? "" : ' ' + answer(on, method, new Object[] {k}));
      }
      all.append('\n');
    }
    return all.toString();
  }

  private boolean runLong() {
    while (calls < CALLS_OF_A_LONG_RUN) {
      if (!callAny()) {
        return false;
      }
    }
    return true;
  }

  private boolean runAndTell() throws ReflectiveOperationException {
    while (calls < CALLS_OF_A_TOLD_RUN) {
      if (!callAny()) {
        return false;
      }
    }
    String got = tell(lab);
    String due = tell(model);
    if (!got.equals(due)) {
      System.out.println(told + "the program then tells\n" + got + "due is\n" + due);
    }
    return got.equals(due);
  }

  public static void main(String[] args) throws ReflectiveOperationException {
    for (int seed = 0; seed < RUNS; seed++) {
      ModelTest test = new ModelTest(seed);
      if (!(seed % 2 == 0 ? test.runLong() : test.runAndTell())) {
        System.out.println("run with the seed " + seed);
        System.exit(1);
      }
    }
    System.out.println(RUNS + " runs are as the model has them");
  }
}
