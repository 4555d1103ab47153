import java.io.IOException;
import java.lang.reflect.Method;
import java.lang.reflect.Modifier;
import java.nio.file.DirectoryStream;
import java.nio.file.Files;
import java.nio.file.Path;
import java.util.regex.Matcher;
import java.util.regex.Pattern;

/** What README.md tells holds: its example's answers; and it names each call of the face and each test. */
public final class ReadmeTest {
  private static final Pattern CALL = Pattern.compile("(?m)^x\\.(\\w+)\\((.*)\\); +// (-?\\d+):? ?.*$");
  private static final Due due = new Due();

  public static void main(String[] args) throws IOException {
    String page = Files.readString(Path.of("README.md"));
    example(page);
    face(page);
    tests(page);
    due.end();
  }

  private static void example(String page) {
    due.part("README.md, the example");
    Calls x = new Calls(new TurnedBeam());
    int calls = 0;
    Matcher call = CALL.matcher(page);
    while (call.find()) {
      calls++;
      due.is(call.group(1) + "(" + call.group(2) + ")", x.answer(call.group(1), numbers(call.group(2))), Long.parseLong(call.group(3)));
    }
    due.is("calls with an answer", calls, page.split("(?m)^x\\.", -1).length - 1);
    due.is("there are some", calls > 0 ? 1 : 0, 1);
  }

  private static long[] numbers(String arguments) {
    String[] words = arguments.isEmpty() ? new String[0] : arguments.split(", ");
    long[] numbers = new long[words.length];
    for (int i = 0; i < words.length; i++) {
      numbers[i] = Long.decode(words[i].replace("L", ""));
    }
    return numbers;
  }

  private static void face(String page) {
    due.part("README.md, the table of calls");
    for (Method method : TurnedBeam.class.getDeclaredMethods()) {
      if (Modifier.isPublic(method.getModifiers())) {
        due.is("names " + method.getName(), page.contains("`" + method.getName() + "`") ? 1 : 0, 1);
      }
    }
  }

  private static void tests(String page) throws IOException {
    due.part("README.md, the table of tests");
    try (DirectoryStream<Path> files = Files.newDirectoryStream(Path.of("src/test/java"), "*Test.java")) {
      for (Path file : files) {
        String name = file.getFileName().toString().replace(".java", "");
        due.is("names " + name, page.contains("| `" + name + "` |") ? 1 : 0, 1);
      }
    }
  }
}
