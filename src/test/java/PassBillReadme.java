import java.io.IOException;
import java.lang.reflect.Method;
import java.lang.reflect.Modifier;
import java.nio.charset.StandardCharsets;
import java.nio.file.Files;
import java.nio.file.Path;
import java.util.HashMap;
import java.util.Map;
import java.util.regex.Matcher;
import java.util.regex.Pattern;

/** Runs the examples of README.md line by line, so that what they tell as answered stays so; run from the root. */
public final class PassBillReadme {
    private static final Pattern BLOCK = Pattern.compile("```java\n(.*?)```", Pattern.DOTALL);
    private static final Pattern CALL = Pattern.compile("(?:int (\\w+) = )?pass\\.(\\w+)\\((.*)\\); +// (-?\\d+)(: .*)?");
    private static final Pattern FED = Pattern.compile("for \\(char c : \"(.*)\"\\.toCharArray\\(\\)\\) pass\\.feed\\(c\\);");

    private static final Map<String, Method> FACE = new HashMap<>();
    private static final Map<String, Long> NAMED = new HashMap<>();
    private static PassBill pass = null;
    private static int asked = 0;
    private static int wrong = 0;

    private static void fail(String what) {
        wrong++;
        System.out.println("README.md: " + what);
    }

    private static long valueOf(String argument) {
        Long named = NAMED.get(argument);
        return named != null ? named : Long.parseLong(argument);
    }

    private static long answer(String name, String told) throws ReflectiveOperationException {
        Method call = FACE.get(name);
        Class<?>[] types = call.getParameterTypes();
        String[] arguments = told.isEmpty() ? new String[0] : told.split(", ");
        Object[] values = new Object[arguments.length];
        for (int i = 0; i < arguments.length; i++) {
            long value = valueOf(arguments[i]);
            boolean isLong = i < types.length && types[i] == long.class;
            values[i] = isLong ? (Object) value : (Object) Math.toIntExact(value);
        }
        return ((Number) call.invoke(pass, values)).longValue();
    }

    private static void runLine(String line) throws ReflectiveOperationException {
        Matcher fed = FED.matcher(line);
        Matcher call = CALL.matcher(line);
        if (line.equals("PassBill pass = new PassBill();")) {
            pass = new PassBill();
            NAMED.clear();
        } else if (fed.matches()) {
            fed.group(1).chars().forEach(c -> pass.feed(c));
        } else if (call.matches() && FACE.containsKey(call.group(2))) {
            asked++;
            long got = answer(call.group(2), call.group(3));
            if (got != Long.parseLong(call.group(4))) {
                fail(line + " <- answered " + got);
            }
            if (call.group(1) != null) {
                NAMED.put(call.group(1), got);
            }
        } else {
            fail("no line that can be run: " + line);
        }
    }

    public static void main(String[] args) throws IOException, ReflectiveOperationException {
        String readme = Files.readString(Path.of("README.md"), StandardCharsets.UTF_8);
        for (Method m : PassBill.class.getDeclaredMethods()) {
            if (Modifier.isPublic(m.getModifiers())) {
                FACE.put(m.getName(), m);
            }
        }
        for (String name : FACE.keySet()) {
            if (!readme.contains("`" + name + "`")) {
                fail("does not name " + name);
            }
        }
        Matcher block = BLOCK.matcher(readme);
        while (block.find()) {
            for (String line : block.group(1).split("\n")) {
                runLine(line);
            }
        }
        if (asked == 0) {
            fail("has no example");
        }
        System.out.println(asked + " answers of README.md asked, " + wrong + " not as due");
        if (wrong != 0) {
            System.exit(1);
        }
    }
}
