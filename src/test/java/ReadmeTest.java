import java.lang.reflect.Method;
import java.lang.reflect.Modifier;
import java.nio.file.Files;
import java.nio.file.Path;
import java.util.List;
import java.util.regex.Matcher;
import java.util.regex.Pattern;

/** README.md's example, run as it stands there; .ci/run starts the tests where README.md lies. */
public final class ReadmeTest {
  private static final Pattern CALL =
      Pattern.compile("x\\.(\\w+)\\((.*)\\);(?: +// (\\w+): .*)?");
  private static final Due due = new Due();

  public static void main(String[] args) throws Exception {
    List<String> lines = Files.readAllLines(Path.of("README.md"));
    exampleAnswersWhatItSays(lines);
    everyCallHasARow(lines);
    due.end();
  }

  private static void exampleAnswersWhatItSays(List<String> lines) throws Exception {
    CarouselMount x = new CarouselMount();
    int from = lines.indexOf("CarouselMount x = new CarouselMount();");
    due.isTrue("README.md has an example", from > 0);
    int calls = 0;
    for (int i = from + 1; from > 0 && !lines.get(i).equals("```"); i++) {
      Matcher call = CALL.matcher(lines.get(i));
      if (call.matches()) {
        answersWhatItSays(x, call);
        calls++;
      } else {
        due.isTrue("a line of the example is a call: " + lines.get(i), lines.get(i).isEmpty());
      }
    }
    due.isTrue("it has calls, and not more than an object may have", calls > 0 && calls <= 512);
  }

  private static void answersWhatItSays(CarouselMount x, Matcher call) throws Exception {
    Method method = methodNamed(call.group(1));
    String[] written = call.group(2).isEmpty() ? new String[0] : call.group(2).split(", ");
    Object[] values = new Object[written.length];
    for (int i = 0; i < values.length; i++) {
      boolean truth = method.getParameterTypes()[i] == boolean.class;
      values[i] = truth ? (Object) Boolean.valueOf(written[i]) : Integer.valueOf(written[i]);
    }
    Object answer = method.invoke(x, values);
    boolean told = call.group(3) != null;
    due.isTrue(call.group() + " tells its answer, if it has one", told == (answer != null));
    if (told && answer != null) {
      due.is(call.group(), (Integer) answer, numberOf(call.group(3)));
    }
  }

  private static Method methodNamed(String name) {
    for (Method method : CarouselMount.class.getDeclaredMethods()) {
      if (method.getName().equals(name) && Modifier.isPublic(method.getModifiers())) {
        return method;
      }
    }
    throw new IllegalArgumentException("no call " + name);
  }

  private static int numberOf(String answer) throws Exception {
    return Character.isLetter(answer.charAt(0))
        ? CarouselMount.class.getDeclaredField(answer).getInt(null)
        : Integer.parseInt(answer);
  }

  private static void everyCallHasARow(List<String> lines) {
    for (Method method : CarouselMount.class.getDeclaredMethods()) {
      if (Modifier.isPublic(method.getModifiers())) {
        String row = "| `" + method.getName() + "(";
        due.is("rows that begin with " + row,
            lines.stream().filter(line -> line.startsWith(row)).count(), 1);
      }
    }
  }
}
