import java.io.IOException;
import java.lang.reflect.Constructor;
import java.lang.reflect.Field;
import java.lang.reflect.Method;
import java.lang.reflect.Modifier;
import java.nio.file.Files;
import java.nio.file.Path;
import java.util.ArrayList;
import java.util.Arrays;
import java.util.List;
import java.util.Set;
import java.util.TreeSet;

/**
 * The program has the face of the document, which is read from there, and nothing besides; and its
 * text keeps to those rules of LANGUAGE.md that can be seen without understanding it.
 * Arguments: the program's source file and the document.
 */
public final class FaceTest {
  private static final Set<String> IMPORTS =
      Set.of("import java.util.Arrays;", "import java.util.NoSuchElementException;");
  private static final List<String> STRANGE = List.of("->", "::", "\\bcatch\\b", "\\btry\\b",
      "\\bfinally\\b", "\\bassert\\b", "\\bsynchronized\\b", "\\bprotected\\b", "\" \\+", "\\+ \"",
      "\\bSystem\\.(?!arraycopy)", "\\bThread\\b", "\\bRandom\\b", "Exact\\(", "\\bimport .*\\*");
  private static final int MOST_CLASSES = 12;
  private static final int MOST_FIELDS = 20;
  private static final int LONGEST_METHOD = 60;

  private static int wrong;

  private FaceTest() {}

  private static void check(boolean holds, String what) {
    if (!holds) {
      wrong++;
      System.out.println(what);
    }
  }

  private static String squeeze(String signature) {
    return signature.replaceAll("java\\.[a-z.]*\\.", "").replaceAll("\\s+", "");
  }

  /** The declarations of the document without the names of their parameters. */
  private static Set<String> faceOfDocument(String document) {
    Set<String> face = new TreeSet<>();
    int start = document.indexOf("public final class KnotLaboratory {");
    String block = document.substring(start, document.indexOf("```", start));
    for (String line : block.split("\n")) {
      if (line.contains("(")) {
        String types = line.replaceAll("(int|boolean|char) [a-zA-Z]+(?=[,)])", "$1");
        face.add(squeeze(types.replace(";", "")));
      }
    }
    return face;
  }

  private static Set<String> faceOfProgram() {
    Set<String> face = new TreeSet<>();
    for (Constructor<?> constructor : KnotLaboratory.class.getDeclaredConstructors()) {
      face.add(squeeze(constructor.toString()));
    }
    Set<String> names = new TreeSet<>();
    for (Method method : KnotLaboratory.class.getDeclaredMethods()) {
      if (!Modifier.isPrivate(method.getModifiers())) {
        face.add(squeeze(method.toString().replace("KnotLaboratory.", "")));
        names.add(method.getName());
      }
    }
    checkPrivateNames(KnotLaboratory.class, names);
    for (Class<?> inside : KnotLaboratory.class.getDeclaredClasses()) {
      checkPrivateNames(inside, names);
    }
    return face;
  }

  private static void checkPrivateNames(Class<?> type, Set<String> names) {
    for (Method method : type.getDeclaredMethods()) {
      boolean isFace = type == KnotLaboratory.class && Modifier.isPublic(method.getModifiers());
      check(isFace || !names.contains(method.getName()), "a name of the face: " + method);
    }
  }

  private static void checkMembers() {
    Class<?>[] inside = KnotLaboratory.class.getDeclaredClasses();
    check(Modifier.isFinal(KnotLaboratory.class.getModifiers()), "the class is not final");
    check(inside.length + 1 <= MOST_CLASSES, "too many classes");
    List<Class<?>> all = new ArrayList<>(Arrays.asList(inside));
    all.add(KnotLaboratory.class);
    for (Class<?> type : all) {
      int fields = 0;
      for (Field field : type.getDeclaredFields()) {
        boolean isStatic = Modifier.isStatic(field.getModifiers());
        check(!isStatic || Modifier.isFinal(field.getModifiers()), "not final: " + field);
        boolean isOpen = !Modifier.isPrivate(field.getModifiers());
        check(type != KnotLaboratory.class || !isOpen, "not private: " + field);
        fields += isStatic ? 0 : 1;
      }
      check(fields <= MOST_FIELDS, "too many fields: " + type);
      check(type == KnotLaboratory.class || Modifier.isPrivate(type.getModifiers())
          && Modifier.isStatic(type.getModifiers()), "not private and static: " + type);
    }
  }

  private static void checkText(List<String> lines) {
    int start = 0;
    for (int index = 0; index < lines.size(); index++) {
      String line = lines.get(index);
      for (String strange : STRANGE) {
        check(!line.matches(".*" + strange + ".*"), "line " + (index + 1) + " has " + strange);
      }
      check(!line.startsWith("import ") || IMPORTS.contains(line), "imported: " + line);
      check(line.chars().allMatch(sign -> sign < 128), "a sign above 127: " + line);
      if (line.matches(" {2}( {2})?[A-Za-z].*\\(.*")) {
        start = index;
      }
      if (line.matches(" {2}( {2})?\\}")) {
        check(index - start < LONGEST_METHOD || line.equals("  }"), "long until " + (index + 1));
      }
    }
  }

  public static void main(String[] args) throws IOException {
    Set<String> due = faceOfDocument(Files.readString(Path.of(args[1])));
    Set<String> got = faceOfProgram();
    check(due.size() == 59, "the document's face has " + due.size() + " members");
    check(got.equals(due), "the program has\n" + got + "\nthe document has\n" + due);
    checkMembers();
    checkText(Files.readAllLines(Path.of(args[0])));
    if (wrong > 0) {
      System.exit(1);
    }
    System.out.println("the face is that of the document");
  }
}
