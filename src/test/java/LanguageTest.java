import java.lang.reflect.Field;
import java.lang.reflect.Method;
import java.lang.reflect.Modifier;
import java.nio.charset.StandardCharsets;
import java.nio.file.Files;
import java.nio.file.Path;
import java.util.ArrayList;
import java.util.List;
import java.util.Map;
import java.util.TreeMap;
import java.util.TreeSet;
import java.util.regex.Matcher;
import java.util.regex.Pattern;

/** The rules of LANGUAGE.md that can be seen in the text of the program. */
public final class LanguageTest {
  private static final String[] FACE = {"KnotTown", "feed", "end", "town", "rule", "force", "place", "bridge", "land", "off", "apart", "slide",
      "change", "twist", "mirror", "backToFront", "can", "writhe", "linked", "colours", "determinant", "polynomial", "shaken", "row", "changes",
      "gossip", "heard", "seed", "floods", "count", "image", "back"};
  private static final String[] SIGNATURES = {"int feed(int,int,int,int,int)", "int end(int)", "int town()", "int rule()", "int force(int)",
      "int place(int,int)", "int bridge(int,int)", "int land(int)", "boolean off(int)", "boolean apart(int,int)", "boolean slide(int,int,int)",
      "int change(int)", "int twist(int,boolean,boolean)", "int mirror()", "int backToFront(int)", "int can(int)", "int writhe()", "int linked()",
      "long colours(int)", "long determinant()", "int polynomial(int,int)", "int shaken()", "int row(int,int)", "int changes(int)",
      "int gossip(int,int)", "int heard(int,int)", "int seed(int)", "int floods(int,int,int,int)", "int count(int)", "int image(int)", "int back(int)"};
  private static final Pattern METHOD = Pattern.compile("(?m)^ +((?:private |public |static |final )*)(?:[A-Za-z\\[\\]]+ )?([A-Za-z]+)\\(([^)]*)\\) \\{$");
  private static int wrong = 0;

  private static void check(boolean holds, String rule) {
    if (!holds) {
      wrong++;
      System.out.println("broken: " + rule);
    }
  }

  public static void main(String[] args) throws Exception {
    String source = Files.readString(Path.of("src/main/java/KnotTown.java"), StandardCharsets.UTF_8);
    String code = source.replaceAll("(?s)/\\*.*?\\*/", "").replaceAll("//[^\n]*", "").replaceAll("\"[^\"\n]*\"", "\"\"");
    face(code);
    banned(code);
    statics(code);
    methods(code);
    signatures();
    fields(KnotTown.class);
    library(code);
    depth(code);
    check(source.chars().allMatch(c -> c == '\n' || c >= 32 && c < 127), "the text has plain signs alone");
    System.out.println(wrong == 0 ? "the language is kept to" : wrong + " rules are broken");
    if (wrong != 0) System.exit(1);
  }

  private static void face(String code) {
    List<String> found = new ArrayList<>();
    Matcher m = Pattern.compile("(?m)^    public (?:static final int NONE|(?:int |long |boolean )?([A-Za-z]+)\\()").matcher(code);
    while (m.find()) if (m.group(1) != null) found.add(m.group(1));
    check(found.equals(List.of(FACE)), "the face is the document's: " + found);
    Matcher any = Pattern.compile("(?m)^    (?!private |public |}|@)\\S[^\n]*").matcher(code);
    while (any.find()) check(false, "a member that is neither public nor private: " + any.group());
    Matcher inside = Pattern.compile("(?m)^ {8,}(public|protected) [^\n]*").matcher(code);
    while (inside.find()) check(false, "a public member inside: " + inside.group());
    Matcher types = Pattern.compile("(?m)^( *)([^\n]*)\\bclass ").matcher(code);
    int classes = 0;
    while (types.find()) {
      classes++;
      check(types.group(1).isEmpty() || types.group(2).equals("private static final "), "classes inside are private and static");
    }
    check(classes <= 13, "some twelve classes: " + classes);
  }

  private static void banned(String code) {
    for (String word : new String[] {"throw", "throws", "try", "catch", "finally", "synchronized", "assert", "double", "float", "Object", "hashCode",
        "System\\.(?!arraycopy)\\w+", "Thread", "Random", "Exception", "Exact", "instanceof", "var", "goto", "native", "volatile"}) {
      check(!Pattern.compile("\\b" + word + "\\b").matcher(code).find(), "no " + word);
    }
    for (String sign : new String[] {"->", "::", "while (true)", "for (;;)", "@"}) check(!code.contains(sign), "no " + sign);
    Matcher imports = Pattern.compile("(?m)^import ([^;]*);").matcher(code);
    while (imports.find()) check(imports.group(1).equals("java.util.Arrays"), "no import of " + imports.group(1));
    Matcher arrays = Pattern.compile("Arrays\\.(\\w+)").matcher(code);
    while (arrays.find()) check(List.of("fill", "copyOf", "copyOfRange").contains(arrays.group(1)) || arrays.group(1).isEmpty(), "no Arrays." + arrays.group(1));
  }

  private static void statics(String code) {
    Matcher m = Pattern.compile("(?m)^ +[a-z ]*static [^(\n]*[;=][^\n]*").matcher(code);
    while (m.find()) check(m.group().contains(" final "), "a static field that is not final: " + m.group().trim());
    check(!Pattern.compile("static \\{").matcher(code).find(), "no static block");
  }

  private static void methods(String code) {
    TreeSet<String> face = new TreeSet<>(List.of(FACE));
    Matcher m = METHOD.matcher(code);
    while (m.find()) {
      String name = m.group(2);
      if (List.of("if", "for", "while", "switch").contains(name)) continue;
      if (!m.group(1).contains("public")) check(!face.contains(name), "no other method bears the name " + name);
      int params = m.group(3).isBlank() ? 0 : m.group(3).split(",").length;
      check(params <= 7, name + " takes seven parameters at most");
      int indent = m.group().length() - m.group().stripLeading().length();
      int end = code.indexOf("\n" + " ".repeat(indent) + "}", m.end());
      long lines = code.substring(m.start(), end).lines().count();
      check(lines <= 60, name + " is short: " + lines);
    }
  }

  private static void signatures() {
    TreeSet<String> found = new TreeSet<>();
    for (Method each : KnotTown.class.getDeclaredMethods()) {
      if (!Modifier.isPublic(each.getModifiers())) continue;
      StringBuilder types = new StringBuilder();
      for (Class<?> type : each.getParameterTypes()) types.append(types.length() > 0 ? "," : "").append(type.getName());
      found.add(each.getReturnType().getName() + " " + each.getName() + "(" + types + ")");
    }
    check(found.equals(new TreeSet<>(List.of(SIGNATURES))), "the calls are those of the document: " + found);
    check(Modifier.isFinal(KnotTown.class.getModifiers()) && KnotTown.class.getPackageName().isEmpty(), "a final class without a package");
    check(KnotTown.class.getConstructors().length == 1 && KnotTown.class.getDeclaredConstructors()[0].getParameterCount() == 0, "one constructor");
  }

  private static void fields(Class<?> type) {
    int own = 0;
    for (Field each : type.getDeclaredFields()) own += Modifier.isStatic(each.getModifiers()) ? 0 : 1;
    check(own <= 20, "some twenty fields: " + type.getName() + " has " + own);
    for (Class<?> inside : type.getDeclaredClasses()) fields(inside);
  }

  private static void library(String code) {
    List<String> listed = List.of("Math.min", "Math.max", "Math.abs", "Math.floorMod", "Integer.bitCount", "Integer.numberOfTrailingZeros", "Long.bitCount",
        "System.arraycopy", "Arrays.fill", "Arrays.copyOf");
    Matcher m = Pattern.compile("\\b((?:Math|Integer|Long|System|Arrays|String|Character|Boolean)\\.\\w+)").matcher(code.replaceAll("import [^;]*;", ""));
    while (m.find()) check(listed.contains(m.group(1)), "no " + m.group(1));
  }

  /** Methods of the same name are taken as one, so the way found is no shorter than the real one. */
  private static void depth(String code) {
    Map<String, TreeSet<String>> calls = new TreeMap<>();
    Map<String, String> bodies = new TreeMap<>();
    Matcher m = METHOD.matcher(code);
    while (m.find()) {
      if (List.of("if", "for", "while", "switch").contains(m.group(2))) continue;
      int indent = m.group().length() - m.group().stripLeading().length();
      bodies.merge(m.group(2), code.substring(m.end(), code.indexOf("\n" + " ".repeat(indent) + "}", m.end())), String::concat);
    }
    bodies.forEach((name, body) -> {
      TreeSet<String> called = calls.computeIfAbsent(name, k -> new TreeSet<>());
      Matcher c = Pattern.compile("\\b([A-Za-z]+\\.)?([A-Za-z]+)\\(").matcher(body);
      while (c.find()) if (bodies.containsKey(c.group(2)) && !"Arrays.".equals(c.group(1))) called.add(c.group(2));
    });
    for (String name : FACE) {
      int deep = deepest(name, calls, new ArrayList<>());
      check(deep <= 8, "calls that are no recursion go eight deep at most: " + name + " " + deep);
    }
  }

  /** The longest way down on which no method comes twice, those that can come again below themselves counted as one. */
  private static int deepest(String name, Map<String, TreeSet<String>> calls, List<String> open) {
    int below = 0;
    open.add(name);
    for (String next : calls.getOrDefault(name, new TreeSet<>())) {
      if (open.contains(next)) continue;
      int found = deepest(next, calls, open);
      below = Math.max(below, found - (comesAgain(next, name, calls, new TreeSet<>()) ? 1 : 0));
    }
    open.remove(open.size() - 1);
    return below + 1;
  }

  private static boolean comesAgain(String from, String to, Map<String, TreeSet<String>> calls, TreeSet<String> seen) {
    for (String next : calls.getOrDefault(from, new TreeSet<>())) {
      if (next.equals(to) || seen.add(next) && comesAgain(next, to, calls, seen)) return true;
    }
    return false;
  }
}
