import java.io.IOException;
import java.lang.reflect.Field;
import java.lang.reflect.Method;
import java.lang.reflect.Modifier;
import java.nio.charset.StandardCharsets;
import java.nio.file.Files;
import java.nio.file.Path;
import java.util.Arrays;
import java.util.Set;
import java.util.TreeSet;
import java.util.regex.Matcher;
import java.util.regex.Pattern;
import java.util.stream.Collectors;

/** The document's face, and those rules of LANGUAGE.md that can be seen in the source; run from the project's root. */
public final class PassBillForm {
    private static int wrong = 0;

    private static void due(boolean so, String what) {
        if (!so) {
            wrong++;
            System.out.println("not so: " + what);
        }
    }

    private static void face() throws IOException {
        String doc = Files.readString(Path.of("../shared/DOC.md"), StandardCharsets.UTF_8);
        Set<String> told = new TreeSet<>();
        Matcher line = Pattern.compile("^    public (int|long) (\\w+)\\((.*)\\);$", Pattern.MULTILINE).matcher(doc);
        while (line.find()) {
            String types = Arrays.stream(line.group(3).split(",")).map(p -> p.trim().split(" ")[0]).collect(Collectors.joining(","));
            told.add(line.group(1) + " " + line.group(2) + "(" + types + ")");
        }
        due(told.size() == 43, "the document tells 43 calls");
        Set<String> there = new TreeSet<>();
        Set<String> hidden = new TreeSet<>();
        for (Method m : PassBill.class.getDeclaredMethods()) {
            String types = Arrays.stream(m.getParameterTypes()).map(Class::getName).collect(Collectors.joining(","));
            if (Modifier.isPublic(m.getModifiers())) {
                due(!Modifier.isStatic(m.getModifiers()), m + " is no static one");
                there.add(m.getReturnType().getName() + " " + m.getName() + "(" + types + ")");
            } else {
                due(Modifier.isPrivate(m.getModifiers()), m + " is private");
                hidden.add(m.getName());
            }
        }
        due(there.equals(told), "the calls are those of the document: " + there + told);
        Set<String> constants = new TreeSet<>();
        for (Field f : PassBill.class.getDeclaredFields()) {
            if (Modifier.isPublic(f.getModifiers())) {
                constants.add(f.getName());
            } else {
                due(Modifier.isPrivate(f.getModifiers()), f + " is private");
            }
        }
        due(constants.equals(new TreeSet<>(Set.of("BAD", "NOT", "FULL", "STATE", "VOID"))), "the constants are the document's");
        due(PassBill.class.getDeclaredConstructors().length == 1, "there is one constructor");
        due(Modifier.isFinal(PassBill.class.getModifiers()), "the class is final");
        inside(hidden);
    }

    private static void inside(Set<String> hidden) {
        Set<String> names = new TreeSet<>();
        for (Method m : PassBill.class.getDeclaredMethods()) {
            if (Modifier.isPublic(m.getModifiers())) {
                names.add(m.getName());
            }
        }
        Class<?>[] classes = PassBill.class.getDeclaredClasses();
        due(classes.length < 12, "there are at most twelve classes");
        for (Class<?> inner : classes) {
            due(Modifier.isStatic(inner.getModifiers()), inner + " is static");
            for (Method m : inner.getDeclaredMethods()) {
                hidden.add(m.getName());
                due(m.getParameterCount() <= 7, m + " takes at most seven");
            }
            due(Arrays.stream(inner.getDeclaredFields()).filter(f -> !Modifier.isStatic(f.getModifiers())).count() <= 20, inner + " has at most twenty fields");
        }
        hidden.retainAll(names);
        due(hidden.isEmpty(), "no hidden method bears the name of a public one: " + hidden);
    }

    private static void source() throws IOException {
        String text = Files.readString(Path.of("src/main/java/PassBill.java"), StandardCharsets.ISO_8859_1);
        due(text.chars().allMatch(c -> c == '\n' || c >= 32 && c < 127), "the source is of plain signs");
        String code = text.replaceAll("(?s)/\\*.*?\\*/", "").replaceAll("//[^\n]*", "");
        for (String word : "throw throws try catch finally synchronized assert import package double float var Object volatile native".split(" ")) {
            due(!Pattern.compile("\\b" + word + "\\b").matcher(code).find(), "there is no " + word);
        }
        for (String sign : new String[] {"->", "::", "@", "while", "do {"}) {
            due(!code.contains(sign), "there is no " + sign);
        }
        for (String line : code.split("\n")) {
            boolean made = Pattern.compile("\\bnew\\b").matcher(line).find();
            boolean kept = line.matches("    (    )?(private )?final .* = new .*;") || line.equals("            shelves[i] = new Shelf();");
            due(!made || kept, "objects are made with the object alone: " + line);
        }
        lengths(code);
    }

    private static void lengths(String code) {
        int began = -1;
        String[] lines = code.split("\n");
        for (int i = 0; i < lines.length; i++) {
            if (lines[i].matches("    (    )?[a-z].*\\) \\{") && !lines[i].trim().matches("(if|for|switch|else).*")) {
                began = i;
            }
            if (began >= 0 && lines[i].matches("    (    )?\\}")) {
                due(i - began <= 60, "a method is short: " + lines[began].trim());
                began = -1;
            }
        }
    }

    public static void main(String[] args) throws IOException {
        face();
        source();
        System.out.println(wrong == 0 ? "the form is as due" : wrong + " rules are not kept");
        if (wrong != 0) {
            System.exit(1);
        }
    }
}
