import java.lang.reflect.Method;
import java.nio.file.Files;
import java.nio.file.Path;
import java.util.Arrays;
import java.util.regex.Matcher;
import java.util.regex.Pattern;

/** The run that README.md shows answers as it says there; .ci/run starts this where README.md lies. */
public final class ReadmeTest {
    private static final Pattern CALL = Pattern.compile("x\\.(\\w+)\\(([^)]*)\\);\\s*//\\s*(-?\\d+)?.*");
    private static final int CALLS_SHOWN = 18;

    public static void main(String[] args) throws Exception {
        PipelineBelt x = new PipelineBelt();
        int calls = 0;
        int wrong = 0;
        for (String line : Files.readAllLines(Path.of("README.md"))) {
            Matcher call = CALL.matcher(line);
            if (call.matches()) {
                calls++;
                Object answer = answer(x, call.group(1), call.group(2));
                Object due = call.group(3) == null ? null : Integer.valueOf(call.group(3));
                if (answer == null ? due != null : !answer.equals(due)) {
                    wrong++;
                    System.out.println(line + ": answered " + answer);
                }
            }
        }
        boolean right = wrong == 0 && calls == CALLS_SHOWN;
        System.out.println(right ? "README.md shows what is so" : calls + " calls are shown, " + wrong + " wrong");
        if (!right) {
            System.exit(1);
        }
    }

    private static Object answer(PipelineBelt x, String name, String list) throws Exception {
        Object[] numbers = list.isEmpty() ? new Object[0]
            : Arrays.stream(list.split(", ")).map(n -> (Object) Long.decode(n).intValue()).toArray();
        Class<?>[] types = new Class<?>[numbers.length];
        Arrays.fill(types, int.class);
        Method method = PipelineBelt.class.getMethod(name, types);
        return method.invoke(x, numbers);
    }
}
