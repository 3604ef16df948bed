import java.lang.reflect.Constructor;
import java.lang.reflect.Field;
import java.lang.reflect.Method;
import java.lang.reflect.Modifier;
import java.nio.file.Files;
import java.nio.file.Path;
import java.util.ArrayList;
import java.util.Arrays;
import java.util.List;
import java.util.Set;
import java.util.TreeSet;

/** The public face, and those rules of LANGUAGE.md that can be seen by looking at the class and at its source. */
public final class FaceTest {
  private static final Check CHECK = new Check("FaceTest");

  private static final String[] FACE = {
      "int feed(int,int,int,int,int)", "int text(int)", "int fault(int)", "int named(int,int)", "int pile(int,int)",
      "int plate(int,int,int)", "int maid(int,int)", "long law(int,int,int,int)", "int turn(int,int)", "int move(int,int)",
      "boolean crack(int,int)", "int go(int)", "int ahead(int,int,int)", "int rightWhen(int)", "int fewest(int,int)",
      "int first(int,int)", "int ways(int,int)", "int apart(int,int,int)", "int furthest(int,int)", "int howMany(int,int,int)",
      "int could(int,int,int)", "int greedy(int)", "int game(int,int,int)", "int match(int)", "long holds(int,int)",
      "int see(int,int,int,boolean)", "int strike(int)", "boolean known(int)", "int deep(int)", "int ask(int,int,int)",
      "int chance(int,int,int)", "int tried(int,int,int)", "int undo()", "int keep()", "int back()", "int count(int)"};

  public static void main(String[] args) throws Exception {
    face();
    faceAsTold();
    classesInside();
    source();
    CHECK.end();
  }

  private static String told(Method method) {
    List<String> parts = new ArrayList<>();
    for (Class<?> part : method.getParameterTypes()) {
      parts.add(part.getSimpleName());
    }
    return method.getReturnType().getSimpleName() + " " + method.getName() + "(" + String.join(",", parts) + ")";
  }

  private static void face() throws Exception {
    Class<?> c = PlatePiles.class;
    CHECK.due("public and final", Modifier.isPublic(c.getModifiers()) && Modifier.isFinal(c.getModifiers()), true);
    Set<String> is = new TreeSet<>();
    Set<String> names = new TreeSet<>();
    for (Method method : c.getDeclaredMethods()) {
      if (!Modifier.isPrivate(method.getModifiers())) {
        CHECK.due(method + " is public", Modifier.isPublic(method.getModifiers()) && !Modifier.isStatic(method.getModifiers()), true);
        is.add(told(method));
        names.add(method.getName());
      }
    }
    Set<String> due = new TreeSet<>(Arrays.asList(FACE));
    CHECK.due("the face is " + is, is.equals(due), true);
    List<Class<?>> thrown = Arrays.asList(c.getMethod("pile", int.class, int.class).getExceptionTypes());
    CHECK.due("pile throws", thrown.contains(IndexOutOfBoundsException.class) && thrown.contains(java.util.NoSuchElementException.class), true);
    for (Field field : c.getDeclaredFields()) {
      boolean none = field.getName().equals("NONE");
      CHECK.due(field + " is private", Modifier.isPrivate(field.getModifiers()), !none);
      CHECK.due(field + ", if static, is final", !Modifier.isStatic(field.getModifiers()) || Modifier.isFinal(field.getModifiers()), true);
    }
    Constructor<?>[] made = c.getDeclaredConstructors();
    CHECK.due("one constructor", made.length, 1);
    CHECK.due("public, without parameters", Modifier.isPublic(made[0].getModifiers()) && made[0].getParameterCount() == 0, true);
    for (Class<?> all : allClasses()) {
      for (Method method : all.getDeclaredMethods()) {
        CHECK.due(method + " bears the name of a public one",
            names.contains(method.getName()) && !(all == c && Modifier.isPublic(method.getModifiers())), false);
        CHECK.due(method + " has seven parameters at most", method.getParameterCount() <= 7, true);
      }
    }
  }

  /** The face is the document's: its block of code, and the head of each promise. */
  private static void faceAsTold() throws Exception {
    String document = Files.readString(Path.of("../shared/DOC.md"));
    String block = document.substring(document.indexOf("```java"), document.indexOf("## Terms"));
    Set<String> told = new TreeSet<>();
    int promises = 0;
    for (String line : block.split("\n")) {
      if (line.matches(" *public (int|long|boolean) .*\\).*;")) {
        String head = line.trim().replaceAll("^public |;$", "");
        told.add(head.replaceAll("\\) throws.*", ")").replaceAll(" \\w+(?=[,)])", "").replace(", ", ","));
        promises += document.contains("\n`" + head + "`: ") ? 1 : 0;
      }
    }
    CHECK.due("the document's face is " + told, told.equals(new TreeSet<>(Arrays.asList(FACE))), true);
    CHECK.due("each call has a promise", promises, FACE.length);
    CHECK.due("NONE", PlatePiles.class.getField("NONE").getInt(null), -1);
  }

  private static List<Class<?>> allClasses() {
    List<Class<?>> all = new ArrayList<>();
    all.add(PlatePiles.class);
    all.addAll(Arrays.asList(PlatePiles.class.getDeclaredClasses()));
    return all;
  }

  private static void classesInside() {
    CHECK.due("twelve classes at most", allClasses().size() <= 12, true);
    for (Class<?> c : allClasses()) {
      int fields = 0;
      for (Field field : c.getDeclaredFields()) {
        boolean isStatic = Modifier.isStatic(field.getModifiers());
        fields += isStatic ? 0 : 1;
        CHECK.due(field + " if static is final", !isStatic || Modifier.isFinal(field.getModifiers()), true);
      }
      CHECK.due(c + " has some twenty fields at most: " + fields, fields <= 21, true);
      CHECK.due(c + " is static or the class itself", c == PlatePiles.class || Modifier.isStatic(c.getModifiers()), true);
      CHECK.due(c + " is not public", c == PlatePiles.class || !Modifier.isPublic(c.getModifiers()), true);
    }
  }

  private static void source() throws Exception {
    List<String> lines = Files.readAllLines(Path.of("src/main/java/PlatePiles.java"));
    int begun = 0;
    String method = "";
    for (int i = 0; i < lines.size(); i++) {
      String line = lines.get(i);
      String code = line.replaceAll("\"[^\"]*\"", "").replaceAll("//.*|/\\*\\*.*", "");
      CHECK.due("line " + (i + 1) + " has only signs up to 126", line.chars().allMatch(c -> c < 127), true);
      CHECK.due("line " + (i + 1) + " has none of what is ruled out: " + line,
          code.matches(".*(->|::|\\bcatch\\b|\\btry\\b|\\bfinally\\b|\\bassert\\b|\\bsynchronized\\b|Exact\\b|\\bvar\\b).*"), false);
      CHECK.due("line " + (i + 1) + " imports nothing else",
          code.startsWith("import") && !code.equals("import java.util.NoSuchElementException;"), false);
      CHECK.due("line " + (i + 1) + " throws only in pile", code.contains("throw new") && !method.contains(" pile("), false);
      if (code.matches("( {4}| {8})[a-zA-Z].*\\) (throws .*)?\\{") && !code.matches(" *(if|for|while|switch).*")) {
        begun = i;
        method = line;
      }
      if (code.matches("( {4}| {8})\\}")) {
        CHECK.due("sixty lines at most: " + method, i - begun <= 62, true);
      }
    }
  }
}
