import java.lang.reflect.Constructor;
import java.lang.reflect.Field;
import java.lang.reflect.Method;
import java.lang.reflect.Modifier;
import java.nio.file.Files;
import java.nio.file.Path;
import java.util.Arrays;
import java.util.List;
import java.util.TreeSet;
import java.util.stream.Collectors;
import java.util.stream.Stream;

/** The face of the class, and those rules of LANGUAGE.md that can be seen in its members and in its words. */
public final class FaceTest {
  private static final String INDEX = "IndexOutOfBoundsException";
  private static final String ARGUMENT = "IllegalArgumentException";
  private static final String STATE = "IllegalStateException";

  private static final List<String> FACE = List.of(
      "int joint() " + STATE,
      "int duct(int, int, double, double) " + INDEX + " " + ARGUMENT + " " + STATE,
      "int machine(int, double) " + INDEX + " " + ARGUMENT + " " + STATE,
      "void use(int, int, boolean) " + INDEX,
      "void fan(double, double) " + ARGUMENT,
      "int solve(int) " + INDEX,
      "double at(int, int) " + INDEX + " " + STATE,
      "double of(int, int) " + INDEX + " " + STATE,
      "double draws(int, int) " + INDEX + " " + STATE,
      "boolean keeps(double) " + ARGUMENT + " " + STATE,
      "int list(double, int) " + ARGUMENT + " " + STATE,
      "int size(int) " + INDEX + " " + STATE,
      "void read(int, double) " + INDEX + " " + ARGUMENT,
      "double fit(int) " + ARGUMENT + " " + STATE,
      "int count(int) " + INDEX);

  private static final List<String> NO_WORDS = List.of("package ", "import ", "Math.", "->", "::", "try", "catch",
      "finally", "synchronized", "assert", "instanceof", "NaN", "static {", "@", "System.", "java.", "var ", "long[]");

  public static void main(String[] args) throws Exception {
    Class<?> face = DuctBalance.class;
    Check.due("class", () -> Modifier.toString(face.getModifiers()), "public final");
    Check.due("methods", () -> methods(face), new TreeSet<>(FACE).toString());
    Check.due("constructors", () -> constructors(face), "[public DuctBalance()]");
    Check.due("fields", () -> fields(face), "[public static final int NONE]");
    for (Class<?> inside : face.getDeclaredClasses()) {
      checkInside(inside);
    }
    Check.due("classes inside", () -> face.getDeclaredClasses().length <= 12, true);
    Stream.concat(Stream.of(face), Arrays.stream(face.getDeclaredClasses())).forEach(FaceTest::checkMembers);
    checkWords(Files.readAllLines(Path.of(args[0])));
    Check.end("FaceTest");
  }

  private static String methods(Class<?> face) {
    return Arrays.stream(face.getDeclaredMethods())
        .filter(method -> !Modifier.isPrivate(method.getModifiers()))
        .map(FaceTest::told)
        .collect(Collectors.toCollection(TreeSet::new)).toString();
  }

  private static String told(Method method) {
    String kind = Modifier.toString(method.getModifiers()).equals("public") ? "" : "not public alone: ";
    return kind + method.getReturnType() + " " + method.getName() + "("
        + Arrays.stream(method.getParameterTypes()).map(Class::getSimpleName).collect(Collectors.joining(", ")) + ") "
        + Arrays.stream(method.getExceptionTypes()).map(Class::getSimpleName).collect(Collectors.joining(" "));
  }

  private static String constructors(Class<?> face) {
    return Arrays.stream(face.getDeclaredConstructors()).map(Constructor::toString).toList().toString();
  }

  private static String fields(Class<?> face) {
    return Arrays.stream(face.getDeclaredFields())
        .filter(field -> !Modifier.isPrivate(field.getModifiers()))
        .map(field -> Modifier.toString(field.getModifiers()) + " " + field.getType() + " " + field.getName())
        .toList().toString();
  }

  private static void checkInside(Class<?> inside) {
    int modifiers = inside.getModifiers();
    Check.due(inside + " is static and hidden", () -> Modifier.isStatic(modifiers) && !Modifier.isPublic(modifiers)
        && !Modifier.isProtected(modifiers), true);
  }

  private static void checkMembers(Class<?> any) {
    List<String> publicNames = FACE.stream().map(line -> line.substring(line.indexOf(' ') + 1, line.indexOf('(')))
        .toList();
    for (Method method : any.getDeclaredMethods()) {
      Check.due(method + " bears a name of its own",
          () -> Modifier.isPublic(method.getModifiers()) || !publicNames.contains(method.getName()), true);
      Check.due(method + " takes few parameters", () -> method.getParameterCount() <= 7, true);
    }
    for (Field field : any.getDeclaredFields()) {
      Check.due(field + " is a constant if it is static", () -> !Modifier.isStatic(field.getModifiers())
          || Modifier.isFinal(field.getModifiers()) && field.getType() == int.class, true);
    }
    long variables = Arrays.stream(any.getDeclaredFields()).filter(f -> !Modifier.isStatic(f.getModifiers())).count();
    Check.due(any + " has few fields", () -> variables <= 20, true);
  }

  private static void checkWords(List<String> lines) {
    for (String line : lines) {
      String code = line.replaceAll("//.*", "").replaceAll("^ *(/\\*\\*|\\*).*", "");
      for (String word : NO_WORDS) {
        Check.due("no '" + word + "' in: " + line, () -> code.contains(word), false);
      }
      // rows are made with the object alone, so that all calls of a run find room
      Check.due("makes nothing in a call: " + line, () -> code.contains("new ") && !code.contains("throw new ")
          && !code.matches(" *(private )?final [A-Za-z\\[\\]]+ [A-Za-z]+ = new .*;"), false);
    }
  }
}
