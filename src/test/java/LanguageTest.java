import java.io.IOException;
import java.lang.reflect.Constructor;
import java.lang.reflect.Field;
import java.lang.reflect.Method;
import java.lang.reflect.Modifier;
import java.nio.file.Files;
import java.nio.file.Path;
import java.util.ArrayList;
import java.util.Arrays;
import java.util.List;
import java.util.TreeSet;
import java.util.regex.Matcher;
import java.util.regex.Pattern;

/** What of LANGUAGE.md and of the public face can be seen from the source and the compiled class. */
public final class LanguageTest {
    private static final String[] FACE = {"side 4", "link 3", "doors 2", "walk 1", "row 2", "right 2", "shaped 2",
        "write 2", "wipe 0", "fault 0", "force 0", "rule 2", "why 2", "quarrel 0", "misread 3", "read 2", "words 3",
        "who 2", "give 2", "split 2", "ask 3", "pass 3", "code 2", "lead 2", "rounds 3", "fullYear 2", "edition 0",
        "book 2", "wrong 2", "keep 0", "back 0", "count 1"};
    private static int wrong = 0;

    private static void check(boolean fine, String what) {
        if (!fine) {
            wrong++;
            System.out.println(what);
        }
    }

    public static void main(String[] args) throws IOException {
        String source = Files.readString(Path.of("src/main/java/DoorCodes.java"));
        String code = source.replaceAll("(?s)/\\*.*?\\*/", "").replaceAll("//[^\n]*", "");
        checkWords(source, code);
        checkLibrary(code);
        checkMethods(code);
        checkFace();
        System.out.println(wrong == 0 ? "the language is kept to" : wrong + " rules are not kept to");
        if (wrong != 0) {
            System.exit(1);
        }
    }

    private static void checkWords(String source, String code) {
        for (char c : source.toCharArray()) {
            check(c >= 10 && c < 127, "a sign outside 1 to 127: " + (int) c);
        }
        String[] banned = {"throw", "throws", "try", "catch", "finally", "synchronized", "assert", "package",
            "protected", "->", "::", "volatile", "native", "hashCode", "toString", "Exact"};
        for (String word : banned) {
            String edge = Character.isLetter(word.charAt(0)) ? "\\b" : "";
            check(!Pattern.compile(edge + word + edge).matcher(code).find(), "not allowed: " + word);
        }
        Matcher imports = Pattern.compile("import ([^;]*);").matcher(code);
        while (imports.find()) {
            check(Arrays.asList("java.util.Arrays", "java.util.ArrayList", "java.util.List").contains(imports.group(1)),
                    "not allowed: import " + imports.group(1));
        }
        Matcher classes = Pattern.compile("(?m)^(.*)\\bclass \\w+").matcher(code);
        int count = 0;
        while (classes.find()) {
            count++;
            check(count == 1 || classes.group(1).contains("static"), "a class that is not static: " + classes.group());
        }
        check(count <= 12, "too many classes: " + count);
    }

    private static void checkLibrary(String code) {
        TreeSet<String> allowed = new TreeSet<>(Arrays.asList("Math.min", "Math.max", "Math.abs",
                "System.arraycopy", "Arrays.fill"));
        Matcher calls = Pattern.compile("\\b(Math|System|Arrays|Integer|Long|String|Character)\\.(\\w+)").matcher(code);
        while (calls.find()) {
            check(allowed.contains(calls.group()), "not allowed: " + calls.group());
        }
    }

    private static void checkMethods(String code) {
        TreeSet<String> publicNames = new TreeSet<>();
        for (String one : FACE) {
            publicNames.add(one.split(" ")[0]);
        }
        Pattern head = Pattern.compile("^ {4,8}(public |private )(static )?\\w+(\\[\\])? (\\w+)\\(([^)]*)\\) \\{$");
        List<String> lines = new ArrayList<>(Arrays.asList(code.split("\n")));
        for (int i = 0; i < lines.size(); i++) {
            Matcher m = head.matcher(lines.get(i));
            if (m.matches()) {
                String name = m.group(4);
                check(m.group(5).split(",").length <= 7, "too many parameters: " + name);
                check(m.group(1).startsWith("public") || !publicNames.contains(name), "bears a public name: " + name);
                String end = lines.get(i).replaceAll("\\S.*", "") + "}";
                int last = i;
                while (last < lines.size() && !lines.get(last).equals(end)) {
                    last++;
                }
                check(last - i <= 60, "too long: " + name);
                String body = String.join(" ", lines.subList(i, Math.min(last + 1, lines.size())));
                check(!Pattern.compile("\\b(new|clone|copyOf|copyOfRange)\\b").matcher(body).find(),
                        "makes an object, where only constructors do: " + name);
            }
        }
    }

    private static void checkFace() {
        TreeSet<String> methods = new TreeSet<>();
        for (Method method : DoorCodes.class.getDeclaredMethods()) {
            if (!Modifier.isPrivate(method.getModifiers())) {
                methods.add(method.getName() + " " + method.getParameterCount());
                check(Modifier.isPublic(method.getModifiers()), "neither public nor private: " + method);
                check(method.getReturnType() == int.class, "answers no int: " + method);
            }
        }
        check(methods.equals(new TreeSet<>(Arrays.asList(FACE))), "not the document's face: " + methods);
        TreeSet<String> constants = new TreeSet<>();
        for (Field field : DoorCodes.class.getDeclaredFields()) {
            if (!Modifier.isPrivate(field.getModifiers())) {
                constants.add(field.getName());
            }
            boolean isStatic = Modifier.isStatic(field.getModifiers());
            check(!isStatic || Modifier.isFinal(field.getModifiers()), "static and not final: " + field);
        }
        check(constants.equals(new TreeSet<>(Arrays.asList("BAD", "NO", "FULL", "NONE"))), "constants: " + constants);
        Constructor<?>[] constructors = DoorCodes.class.getDeclaredConstructors();
        check(constructors.length == 1 && constructors[0].getParameterCount() == 0, "the constructor");
        check(Modifier.isFinal(DoorCodes.class.getModifiers()), "not final");
        for (Class<?> inner : DoorCodes.class.getDeclaredClasses()) {
            check(Modifier.isStatic(inner.getModifiers()), "not static: " + inner);
            check(inner.getDeclaredFields().length <= 20, "too many fields: " + inner);
        }
    }
}
