import java.lang.reflect.Method;
import java.nio.file.Files;
import java.nio.file.Path;
import java.util.TreeSet;
import java.util.regex.Matcher;
import java.util.regex.Pattern;

/** The calls that README.md shows answer what stands behind them there; it names every call of the face. */
public final class ReadmeTest extends Answers {
  private static final Pattern CALL = Pattern.compile("x\\.(\\w+)\\(([^)]*)\\); *// (-?\\d+|true|false)\\b.*");

  public static void main(String[] args) throws Exception {
    String page = Files.readString(Path.of("README.md"));
    int calls = 0;
    KnotTown x = null;
    for (String line : page.split("\n")) {
      if (line.equals("KnotTown x = new KnotTown();")) x = new KnotTown();
      if (!line.startsWith("x.")) continue;
      Matcher m = CALL.matcher(line);
      due("a call with its answer: " + line, m.matches() && x != null, true);
      if (m.matches() && x != null) due(line, answer(x, m.group(1), m.group(2)), wanted(m.group(3)));
      calls++;
    }
    due("the page shows calls", calls > 0, true);
    TreeSet<String> missing = new TreeSet<>();
    for (Method each : KnotTown.class.getDeclaredMethods()) {
      if (java.lang.reflect.Modifier.isPublic(each.getModifiers()) && !page.contains("`" + each.getName() + "(")) missing.add(each.getName());
    }
    due("calls that the page does not name: " + missing, missing.size(), 0);
    int at = page.indexOf("`bar through=1 and");
    due("the rule on the page", at < 0 ? -1 : ruleAnswer(page.substring(at + 1, page.indexOf((char) 96, at + 1))), 0);
    finish("the page says what is so");
  }

  private static long wanted(String text) {
    return text.equals("true") ? 1 : text.equals("false") ? 0 : Long.parseLong(text);
  }

  private static long answer(KnotTown x, String name, String given) throws Exception {
    String[] parts = given.isBlank() ? new String[0] : given.split(",");
    for (Method each : KnotTown.class.getDeclaredMethods()) {
      if (!each.getName().equals(name) || each.getParameterCount() != parts.length) continue;
      Object[] values = new Object[parts.length];
      for (int i = 0; i < parts.length; i++) {
        String part = parts[i].trim();
        values[i] = each.getParameterTypes()[i] == boolean.class ? (Object) Boolean.valueOf(part) : (Object) Integer.valueOf(part);
      }
      Object got = each.invoke(x, values);
      return got instanceof Boolean b ? (b ? 1 : 0) : ((Number) got).longValue();
    }
    due("a call that there is: " + name, false, true);
    return 0;
  }
}
