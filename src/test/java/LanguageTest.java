import java.io.IOException;
import java.nio.file.Files;
import java.nio.file.Path;
import java.util.ArrayList;
import java.util.List;
import java.util.regex.Matcher;
import java.util.regex.Pattern;

/** What of LANGUAGE.md can be seen from the words of the source alone. */
public final class LanguageTest {
  private static final String[] BARRED = {
    "\\b(throw|throws|try|catch|finally|synchronized|assert|volatile|native|package)\\b",
    "(?m)^(?!.*\\b(case|default)\\b).*->", "::", "\\bstatic\\s*\\{", "\\bSystem\\.(?!arraycopy)",
    "\\bimport (?!java\\.util\\.(Arrays|ArrayList|List|Iterator);)", "\\w+Exact\\b",
    "\\b(Thread|Random|Runtime|HashMap|HashSet|TreeMap)\\b",
  };
  private static int wrong = 0;

  public static void main(String[] args) throws IOException {
    String source = bare(Files.readString(Path.of("src/main/java/TurnedBeam.java")));
    for (String barred : BARRED) {
      Matcher found = Pattern.compile(barred).matcher(source);
      while (found.find()) {
        say("'" + found.group() + "' in line " + lineOf(source, found.start()));
      }
    }
    names(source);
    methods(source);
    System.out.println(wrong == 0 ? "the language is kept to" : wrong + " places are outside the language");
    System.exit(wrong == 0 ? 0 : 1);
  }

  /** Without comments and without what stands in quotes; lines stay. */
  private static String bare(String source) {
    Matcher m = Pattern.compile("(?s)/\\*.*?\\*/|//[^\\n]*|'(\\\\.|[^'])'|\"[^\"]*\"").matcher(source);
    return m.replaceAll(found -> found.group().replaceAll("[^\\n]", " "));
  }

  private static int lineOf(String source, int at) {
    return (int) source.substring(0, at).chars().filter(c -> c == '\n').count() + 1;
  }

  private static void say(String what) {
    wrong++;
    System.out.println(what);
  }

  private static List<String> all(String source, String pattern) {
    List<String> names = new ArrayList<>();
    Matcher found = Pattern.compile(pattern).matcher(source);
    while (found.find()) {
      names.add(found.group(1));
    }
    return names;
  }

  private static void names(String source) {
    List<String> face = all(source, "public (?:int|long) (\\w+)\\(");
    if (face.size() != 36) {
      say("the face has " + face.size() + " methods");
    }
    for (String name : all(source, "(?m)^ +(?!public|return|else)(?:private |static |final )*[\\w\\[\\]]+ (\\w+)\\([^;]*\\{$")) {
      if (face.contains(name)) {
        say("a method that is not of the face bears the name " + name);
      }
    }
    if (all(source, "\\b(?:class|enum|record|interface) (\\w+)").size() > 14) {
      say("more than some twelve classes");
    }
  }

  private static void methods(String source) {
    String[] lines = source.split("\n");
    int from = -1;
    for (int i = 0; i < lines.length; i++) {
      boolean opens = lines[i].matches(" {2,4}(?! )(?!.*\\bclass\\b).*\\) \\{");
      from = opens ? i : from;
      if (from >= 0 && lines[i].matches(" {2,4}\\}")) {
        if (i - from > 65) {
          say("a method of " + (i - from) + " lines in line " + (from + 1));
        }
        from = -1;
      }
      if (opens && lines[i].replaceAll("[^,]", "").length() > 6) {
        say("more than seven parameters in line " + (i + 1));
      }
    }
  }
}
