import java.lang.reflect.Method;
import java.nio.file.Files;
import java.nio.file.Path;
import java.util.ArrayList;
import java.util.List;
import java.util.regex.Matcher;
import java.util.regex.Pattern;

/** The examples in README.md: each line is called as it stands there and answers what it says. */
public final class ReadmeTest {
  private static final Pattern BLOCK = Pattern.compile("(?s)```java\n(.*?)```");
  private static final String MADE = "SoapNames soap = new SoapNames();";
  private static final Pattern CALL =
      Pattern.compile("soap\\.(\\w+)\\((.*)\\); +// (-?\\d+)(?:: .+)?");

  public static void main(String[] args) throws Exception {
    Matcher blocks = BLOCK.matcher(Files.readString(Path.of("README.md")));
    int many = 0;
    while (blocks.find()) {
      many++;
      example(blocks.group(1).lines().toList());
    }
    Due.due("README.md: examples", many, 3);
    Due.end();
  }

  private static void example(List<String> lines) throws Exception {
    Due.so("README.md: an example begins with " + MADE, lines.get(0).equals(MADE));
    Due.so("README.md: calls of an example", lines.size() > 1 && lines.size() <= 513);
    SoapNames soap = new SoapNames();
    for (String line : lines.subList(1, lines.size())) {
      Matcher m = CALL.matcher(line);
      boolean isCall = m.matches();
      Due.so("README.md: a call and its answer: " + line, isCall);
      if (isCall) {
        Due.due("README.md: " + line, answer(soap, m.group(1), m.group(2)), Long.parseLong(m.group(3)));
      }
    }
  }

  private static int answer(SoapNames soap, String name, String told) throws Exception {
    Method call = null;
    for (Method m : SoapNames.class.getMethods()) {
      call = m.getDeclaringClass() == SoapNames.class && m.getName().equals(name) ? m : call;
    }
    String[] numbers = told.isEmpty() ? new String[0] : told.split(", ");
    List<Object> args = new ArrayList<>();
    for (int i = 0; i < numbers.length; i++) {
      boolean isLong = call.getParameterTypes()[i] == long.class;
      args.add(isLong ? (Object) Long.decode(numbers[i].replace("L", "")) : Integer.decode(numbers[i]));
    }
    return (int) call.invoke(soap, args.toArray());
  }
}
