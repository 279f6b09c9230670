import java.io.IOException;
import java.lang.reflect.InvocationTargetException;
import java.lang.reflect.Method;
import java.nio.file.Files;
import java.nio.file.Path;
import java.util.regex.Matcher;
import java.util.regex.Pattern;

/** The example of README.md: each call answers what the remark behind it begins with. */
public final class ReadmeTest {
    private static final Pattern CALL = Pattern.compile("card\\.(\\w+)\\((.*)\\);\\s*// (-?\\w+):.*");

    static Object answerOf(CardCutter card, String name, String[] words)
            throws IllegalAccessException, InvocationTargetException {
        for (Method m : CardCutter.class.getMethods()) {
            if (m.getName().equals(name) && m.getParameterCount() == words.length) {
                Object[] args = new Object[words.length];
                for (int i = 0; i < words.length; i++) {
                    boolean truth = m.getParameterTypes()[i] == boolean.class;
                    args[i] = truth ? (Object) words[i].equals("true") : (Object) Integer.decode(words[i]);
                }
                return m.invoke(card, args);
            }
        }
        return "no such call";
    }

    public static void main(String[] args) throws IOException, IllegalAccessException, InvocationTargetException {
        CardCutter card = new CardCutter();
        int calls = 0;
        int wrong = 0;
        for (String line : Files.readAllLines(Path.of("README.md"))) {
            Matcher m = CALL.matcher(line);
            if (m.matches()) {
                calls++;
                String[] words = m.group(2).isEmpty() ? new String[0] : m.group(2).split(", ");
                String got = answerOf(card, m.group(1), words).toString();
                if (!got.equals(m.group(3))) {
                    wrong++;
                    System.out.println(line + " answered " + got);
                }
            }
        }
        System.out.println("readme: " + calls + " calls, " + wrong + " wrong");
        if (wrong != 0 || calls == 0) {
            System.exit(1);
        }
    }
}
