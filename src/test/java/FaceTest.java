import java.io.IOException;
import java.lang.reflect.Constructor;
import java.lang.reflect.Field;
import java.lang.reflect.Method;
import java.lang.reflect.Modifier;
import java.nio.file.Files;
import java.nio.file.Path;
import java.util.ArrayList;
import java.util.Arrays;
import java.util.List;
import java.util.TreeSet;
import java.util.regex.Matcher;
import java.util.regex.Pattern;

/** The public face, member by member, and the rules of the language that a text search can see. */
public final class FaceTest {
  private static final List<String> METHODS = List.of(
      "int begin()",
      "int addVariable(boolean) IllegalStateException",
      "int addClause(int,int) IllegalArgumentException IllegalStateException",
      "int removeClause(int) IndexOutOfBoundsException",
      "int learn(int) IllegalArgumentException IllegalStateException",
      "int forget()",
      "int round()",
      "int learnAll()",
      "boolean isBreakers(int) IndexOutOfBoundsException",
      "int clause(int,int) IndexOutOfBoundsException IllegalArgumentException",
      "boolean isTrue(int) IllegalArgumentException",
      "int value(int) IllegalArgumentException",
      "int winner()",
      "int winnerAt(int,int) IndexOutOfBoundsException IllegalArgumentException",
      "int move(int,int) IndexOutOfBoundsException IllegalArgumentException",
      "int ways(int) IllegalArgumentException",
      "boolean beats(int) IllegalArgumentException",
      "int answer(int,int) IndexOutOfBoundsException IllegalArgumentException",
      "int copies()",
      "int leastProof()",
      "int proof()",
      "double hope()",
      "int append(int) IllegalArgumentException IllegalStateException",
      "int clearText()",
      "int carryOut()",
      "int undo() IllegalStateException",
      "long digest()");

  private static final Pattern METHOD_HEAD =
      Pattern.compile("( +)(?:public|private) [^=;]*\\([^;]*$");

  private static int wrong = 0;

  public static void main(String[] args) throws IOException {
    face();
    nothingElseIsVisible();
    classes();
    Path source = Path.of("src/main/java/ForAllGame.java");
    List<String> lines = Files.readAllLines(source);
    language(lines);
    methodsAreShort(lines);
    System.out.println(wrong == 0 ? "the face is as due" : wrong + " faults");
    if (wrong != 0) {
      System.exit(1);
    }
  }

  private static void due(boolean holds, String fault) {
    if (!holds) {
      wrong++;
      System.out.println(fault);
    }
  }

  private static void face() {
    TreeSet<String> found = new TreeSet<>();
    for (Method method : ForAllGame.class.getDeclaredMethods()) {
      if (!Modifier.isPrivate(method.getModifiers())) {
        due(method.getModifiers() == Modifier.PUBLIC, "modifiers of " + method);
        found.add(told(method));
      }
    }
    due(found.equals(new TreeSet<>(METHODS)), "the methods are " + found);
    Constructor<?>[] constructors = ForAllGame.class.getDeclaredConstructors();
    due(constructors.length == 1 && constructors[0].getParameterCount() == 0
        && Modifier.isPublic(constructors[0].getModifiers()), "the constructor");
    due(ForAllGame.class.getModifiers() == (Modifier.PUBLIC | Modifier.FINAL), "the class");
  }

  private static String told(Method method) {
    List<String> parameters = new ArrayList<>();
    for (Class<?> type : method.getParameterTypes()) {
      parameters.add(type.getName());
    }
    StringBuilder told = new StringBuilder();
    told.append(method.getReturnType().getName()).append(' ').append(method.getName());
    told.append('(').append(String.join(",", parameters)).append(')');
    for (Class<?> exception : method.getExceptionTypes()) {
      told.append(' ').append(exception.getSimpleName());
    }
    return told.toString();
  }

  private static void nothingElseIsVisible() {
    TreeSet<String> names = new TreeSet<>();
    for (String method : METHODS) {
      names.add(method.replaceAll("^\\w+ (\\w+)\\(.*$", "$1"));
    }
    for (Method method : ForAllGame.class.getDeclaredMethods()) {
      boolean isPrivate = Modifier.isPrivate(method.getModifiers());
      due(!isPrivate || !names.contains(method.getName()), "a private method " + method);
    }
    for (Field field : ForAllGame.class.getDeclaredFields()) {
      boolean isNone = field.getName().equals("NONE")
          && field.getModifiers() == (Modifier.PUBLIC | Modifier.STATIC | Modifier.FINAL)
          && field.getType() == int.class;
      due(isNone || Modifier.isPrivate(field.getModifiers()), "a field " + field);
    }
    for (Class<?> inside : ForAllGame.class.getDeclaredClasses()) {
      due(Modifier.isStatic(inside.getModifiers()), "a class " + inside);
      for (Method method : inside.getDeclaredMethods()) {
        due(!names.contains(method.getName()), "a method inside " + method);
      }
    }
  }

  private static List<Class<?>> allClasses() {
    List<Class<?>> all = new ArrayList<>(List.of(ForAllGame.class.getDeclaredClasses()));
    all.add(ForAllGame.class);
    return all;
  }

  /**
   * What rules 3, 5 and 11 say of classes, fields and parameters. Of the types that rule 3 leaves,
   * just those are let pass that this class has.
   */
  private static void classes() {
    due(allClasses().size() <= 12, "there are too many classes");
    for (Class<?> one : allClasses()) {
      due(one.getDeclaredClasses().length == 0 || one == ForAllGame.class, "a class in " + one);
      int fields = 0;
      for (Field field : one.getDeclaredFields()) {
        boolean isStatic = Modifier.isStatic(field.getModifiers());
        fields += isStatic ? 0 : 1;
        due(!isStatic || Modifier.isFinal(field.getModifiers()), "a static field " + field);
        due(isAllowed(field.getType()), "the type of the field " + field);
      }
      due(fields <= 20, "the fields of " + one);
      for (Method method : one.getDeclaredMethods()) {
        due(method.getParameterCount() <= 7, "the parameters of " + method);
        due(isAllowed(method.getReturnType()), "what is returned by " + method);
        for (Class<?> type : method.getParameterTypes()) {
          due(isAllowed(type), "the type of a parameter of " + method);
        }
      }
    }
  }

  private static boolean isAllowed(Class<?> type) {
    boolean isRow = type.isArray() && !type.getComponentType().isArray();
    Class<?> element = isRow ? type.getComponentType() : type;
    return element.isPrimitive() || element == String.class || allClasses().contains(element);
  }

  /** Rule 11: a method ends with a brace that stands as far in as its first line begins. */
  private static void methodsAreShort(List<String> lines) {
    int methods = 0;
    for (int first = 0; first < lines.size(); first++) {
      Matcher head = METHOD_HEAD.matcher(lines.get(first));
      if (head.lookingAt()) {
        methods++;
        int last = lines.subList(first, lines.size()).indexOf(head.group(1) + "}");
        due(last >= 0 && last < 60, "a long method begins at line " + (first + 1));
      }
    }
    due(methods > METHODS.size(), "just " + methods + " methods are found");
  }

  /** What rules 3 to 6, 10 and 12 leave out, as far as words tell it. */
  private static void language(List<String> lines) {
    List<String> banned = Arrays.asList("\\bimport\\b", "\\bpackage\\b", "->", "::", "\\btry\\b",
        "\\bcatch\\b", "\\bfinally\\b", "\\bsynchronized\\b", "\\bassert\\b", "\\bMath\\b",
        "\\bSystem\\b", "\\bObject\\b", "\" \\+", "\\+ \"", "\\bArrays\\b");
    for (int i = 0; i < lines.size(); i++) {
      String line = lines.get(i);
      String code = line.trim();
      boolean isComment = code.startsWith("//") || code.startsWith("*") || code.startsWith("/*");
      for (String words : banned) {
        boolean found = !isComment && Pattern.compile(words).matcher(code).find();
        due(!found, "line " + (i + 1) + " has " + words + ": " + code);
      }
      // Rows and objects are made once for each game, so that many calls need no more room.
      boolean makes = !isComment && Pattern.compile("\\bnew\\b").matcher(code).find();
      boolean once = code.startsWith("private final ") || code.startsWith("throw new ");
      due(!makes || once, "line " + (i + 1) + " makes an object: " + code);
      boolean isPlain = line.chars().allMatch(c -> c >= 32 && c < 127);
      due(isPlain, "line " + (i + 1) + " has a strange sign");
    }
  }
}
