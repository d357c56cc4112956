import java.io.IOException;
import java.lang.reflect.Constructor;
import java.lang.reflect.Field;
import java.lang.reflect.Method;
import java.lang.reflect.Modifier;
import java.nio.file.Files;
import java.nio.file.Path;
import java.util.ArrayList;
import java.util.Collections;
import java.util.HashSet;
import java.util.List;
import java.util.Set;
import java.util.regex.Matcher;
import java.util.regex.Pattern;

/** The public face, and the rules of LANGUAGE.md that can be looked up in the source. */
public final class FaceTest {
  private static final String FACE = "as(int,int) body(int) came(int,int,int) check() cost(int,int) "
      + "count(int) customer(int,int,int) customerIs(int,int) customers(int) days(int) feed(long,int) "
      + "fills(int,int) image() joined(int,int) judge(int) keep(int,int,int) leave() loose(int) morning() "
      + "move(int,int,int,int,int) out(int,int) price(int,int) put(int,int,int) range(int,int) restore() "
      + "rule(int,int) seed(int) set(int,int,int) sheet(int,int,int) shop(int) shopIs(int,int) tell(int) "
      + "text(int) then(int,int,int) told(int) turn(int,int) untell(int) visit(int) voice(int,int,int) "
      + "walk(int)";

  public static void main(String[] args) throws IOException {
    face();
    hidden();
    source(Files.readString(Path.of("src/main/java/LeftLacks.java")));
    Due.end("FaceTest");
  }

  private static void holds(String what, boolean so) {
    Due.due(what, so ? 1 : 0, 1);
  }

  private static void face() {
    List<String> found = new ArrayList<>();
    for (Method method : LeftLacks.class.getDeclaredMethods()) {
      if (!Modifier.isPrivate(method.getModifiers())) {
        holds(method + " is public", Modifier.isPublic(method.getModifiers()));
        holds(method + " answers an int", method.getReturnType() == int.class);
        List<String> types = new ArrayList<>();
        for (Class<?> type : method.getParameterTypes()) {
          types.add(type.getName());
        }
        found.add(method.getName() + "(" + String.join(",", types) + ")");
      }
    }
    Collections.sort(found);
    List<String> due = new ArrayList<>(List.of(FACE.split(" ")));
    Collections.sort(due);
    holds("the face is " + found, found.equals(due));
    holds("final", Modifier.isFinal(LeftLacks.class.getModifiers()));
    Constructor<?>[] constructors = LeftLacks.class.getDeclaredConstructors();
    Due.due("constructors", constructors.length, 1);
    Due.due("its parameters", constructors[0].getParameterCount(), 0);
  }

  private static void hidden() {
    for (Field field : LeftLacks.class.getDeclaredFields()) {
      holds(field + " is private", Modifier.isPrivate(field.getModifiers()));
    }
    Set<String> names = new HashSet<>();
    for (String one : FACE.split(" ")) {
      names.add(one.substring(0, one.indexOf('(')));
    }
    List<Class<?>> classes = new ArrayList<>(List.of(LeftLacks.class.getDeclaredClasses()));
    holds("at most twelve classes", classes.size() < 12);
    for (Class<?> one : classes) {
      holds(one + " is static", Modifier.isStatic(one.getModifiers()));
      int own = 0;
      for (Field field : one.getDeclaredFields()) {
        boolean isStatic = Modifier.isStatic(field.getModifiers());
        holds(field + " is final if static", !isStatic || Modifier.isFinal(field.getModifiers()));
        own += isStatic ? 0 : 1;
      }
      holds(one + " has at most twenty fields", own <= 20);
      for (Method method : one.getDeclaredMethods()) {
        holds(method + " has a name of its own", !names.contains(method.getName()));
        holds(method + " has at most seven parameters", method.getParameterCount() <= 7);
      }
    }
    for (Method method : LeftLacks.class.getDeclaredMethods()) {
      boolean isPrivate = Modifier.isPrivate(method.getModifiers());
      holds(method + " has a name of its own", !isPrivate || !names.contains(method.getName()));
    }
  }

  private static void source(String text) {
    String code = text.replaceAll("(?s)/\\*.*?\\*/", "").replaceAll("//[^\n]*", "");
    String[] barred = {"\\bthrow\\b", "\\btry\\b", "\\bcatch\\b", "\\bsynchronized\\b", "\\bassert\\b", "->",
        "::", "\\bpackage\\b", "Exact\\b", "\\bString\\.format\\b", "\\bSystem\\.(?!arraycopy\\b)", "\\bThread\\b",
        "\\bObject\\b", "\\bprotected\\b"};
    for (String one : barred) {
      Matcher matcher = Pattern.compile(one).matcher(code);
      holds("no " + one, !matcher.find());
    }
    Matcher imports = Pattern.compile("import ([^;]*);").matcher(code);
    while (imports.find()) {
      holds("import " + imports.group(1), imports.group(1).matches("java\\.util\\.(Arrays|ArrayList|List)"));
    }
    for (int i = 0; i < text.length(); i++) {
      if (text.charAt(i) > 127) {
        holds("plain signs at " + i, false);
      }
    }
    shortMethods(code);
  }

  /** Methods start two or four blanks in, and end with a brace that stands just as far in. */
  private static void shortMethods(String code) {
    String[] lines = code.split("\n");
    for (int i = 0; i < lines.length; i++) {
      String line = lines[i];
      int in = line.length() - line.stripLeading().length();
      boolean method = line.matches(" {2,4}[a-zA-Z].*\\) \\{") && !line.contains("class ");
      if (!method || line.strip().matches("(if|for|switch|while) .*")) {
        continue;
      }
      int end = i;
      while (end < lines.length && !lines[end].equals(" ".repeat(in) + "}")) {
        end++;
      }
      holds(line.strip() + " is short", end - i < 60);
    }
  }
}
