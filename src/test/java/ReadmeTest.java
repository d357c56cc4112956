import java.io.IOException;
import java.lang.reflect.Method;
import java.nio.file.Files;
import java.nio.file.Path;
import java.util.regex.Matcher;
import java.util.regex.Pattern;

/** The run in README.md, call by call: each answers what stands behind it. */
public final class ReadmeTest {
  private static final Pattern CALL = Pattern.compile("row\\.(\\w+)\\(([^)]*)\\);\\s*// (-?\\d+)\\b.*");

  public static void main(String[] args) throws IOException, ReflectiveOperationException {
    LeftLacks row = new LeftLacks();
    for (String line : Files.readAllLines(Path.of("README.md"))) {
      if (line.startsWith("row.")) {
        Matcher call = CALL.matcher(line);
        Due.due(line + " is a call with its answer", call.matches() ? 1 : 0, 1);
        Due.due(line, answer(row, call.group(1), call.group(2)), Long.parseLong(call.group(3)));
      }
    }
    Due.end("ReadmeTest");
  }

  private static int answer(LeftLacks row, String name, String given) throws ReflectiveOperationException {
    String[] words = given.isEmpty() ? new String[0] : given.split(", ");
    Class<?>[] types = new Class<?>[words.length];
    Object[] values = new Object[words.length];
    for (int i = 0; i < words.length; i++) {
      boolean isLong = words[i].endsWith("L");
      long value = Long.decode(words[i].replace("L", ""));
      types[i] = isLong ? long.class : int.class;
      values[i] = isLong ? (Object) value : (Object) (int) value;
    }
    Method method = LeftLacks.class.getMethod(name, types);
    return (Integer) method.invoke(row, values);
  }
}
