import java.nio.charset.StandardCharsets;
import java.nio.file.Files;
import java.nio.file.Path;
import java.util.ArrayList;
import java.util.List;
import java.util.TreeSet;
import java.util.regex.Matcher;
import java.util.regex.Pattern;

/** The rules of LANGUAGE.md that can be seen in the text of the program. */
public final class LanguageTest {
  private static final String[] FACE = {"KnotTown", "feed", "end", "town", "rule", "force", "place", "bridge", "land", "off", "apart", "slide",
      "change", "twist", "mirror", "backToFront", "can", "writhe", "linked", "colours", "determinant", "polynomial", "shaken", "row", "changes",
      "gossip", "heard", "seed", "floods", "count", "image", "back"};
  private static final Pattern METHOD = Pattern.compile("(?m)^ +((?:private |public |static |final )*)(?:[A-Za-z\\[\\]]+ )?([A-Za-z]+)\\(([^)]*)\\) \\{$");
  private static int wrong = 0;

  private static void check(boolean holds, String rule) {
    if (!holds) {
      wrong++;
      System.out.println("broken: " + rule);
    }
  }

  public static void main(String[] args) throws Exception {
    String source = Files.readString(Path.of("src/main/java/KnotTown.java"), StandardCharsets.UTF_8);
    String code = source.replaceAll("(?s)/\\*.*?\\*/", "").replaceAll("//[^\n]*", "").replaceAll("\"[^\"\n]*\"", "\"\"");
    face(code);
    banned(code);
    statics(code);
    methods(code);
    check(source.chars().allMatch(c -> c == '\n' || c >= 32 && c < 127), "the text has plain signs alone");
    System.out.println(wrong == 0 ? "the language is kept to" : wrong + " rules are broken");
    if (wrong != 0) System.exit(1);
  }

  private static void face(String code) {
    List<String> found = new ArrayList<>();
    Matcher m = Pattern.compile("(?m)^    public (?:static final int NONE|(?:int |long |boolean )?([A-Za-z]+)\\()").matcher(code);
    while (m.find()) if (m.group(1) != null) found.add(m.group(1));
    check(found.equals(List.of(FACE)), "the face is the document's: " + found);
    Matcher any = Pattern.compile("(?m)^    (?!private |public |}|@)\\S[^\n]*").matcher(code);
    while (any.find()) check(false, "a member that is neither public nor private: " + any.group());
    Matcher inside = Pattern.compile("(?m)^ {8,}(public|protected) [^\n]*").matcher(code);
    while (inside.find()) check(false, "a public member inside: " + inside.group());
    Matcher types = Pattern.compile("(?m)^( *)([^\n]*)\\bclass ").matcher(code);
    int classes = 0;
    while (types.find()) {
      classes++;
      check(types.group(1).isEmpty() || types.group(2).equals("private static final "), "classes inside are private and static");
    }
    check(classes <= 13, "some twelve classes: " + classes);
  }

  private static void banned(String code) {
    for (String word : new String[] {"throw", "throws", "try", "catch", "finally", "synchronized", "assert", "double", "float", "Object", "hashCode",
        "System\\.(?!arraycopy)\\w+", "Thread", "Random", "Exception", "Exact", "instanceof", "var", "goto", "native", "volatile"}) {
      check(!Pattern.compile("\\b" + word + "\\b").matcher(code).find(), "no " + word);
    }
    for (String sign : new String[] {"->", "::", "while (true)", "for (;;)", "@"}) check(!code.contains(sign), "no " + sign);
    Matcher imports = Pattern.compile("(?m)^import ([^;]*);").matcher(code);
    while (imports.find()) check(imports.group(1).equals("java.util.Arrays"), "no import of " + imports.group(1));
    Matcher arrays = Pattern.compile("Arrays\\.(\\w+)").matcher(code);
    while (arrays.find()) check(List.of("fill", "copyOf", "copyOfRange").contains(arrays.group(1)) || arrays.group(1).isEmpty(), "no Arrays." + arrays.group(1));
  }

  private static void statics(String code) {
    Matcher m = Pattern.compile("(?m)^ +[a-z ]*static [^(\n]*[;=][^\n]*").matcher(code);
    while (m.find()) check(m.group().contains(" final "), "a static field that is not final: " + m.group().trim());
    check(!Pattern.compile("static \\{").matcher(code).find(), "no static block");
  }

  private static void methods(String code) {
    TreeSet<String> face = new TreeSet<>(List.of(FACE));
    Matcher m = METHOD.matcher(code);
    while (m.find()) {
      String name = m.group(2);
      if (List.of("if", "for", "while", "switch").contains(name)) continue;
      if (!m.group(1).contains("public")) check(!face.contains(name), "no other method bears the name " + name);
      int params = m.group(3).isBlank() ? 0 : m.group(3).split(",").length;
      check(params <= 7, name + " takes seven parameters at most");
      int indent = m.group().length() - m.group().stripLeading().length();
      int end = code.indexOf("\n" + " ".repeat(indent) + "}", m.end());
      long lines = code.substring(m.start(), end).lines().count();
      check(lines <= 60, name + " is short: " + lines);
    }
  }
}
