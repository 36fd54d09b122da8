import java.lang.reflect.Constructor;
import java.lang.reflect.Field;
import java.lang.reflect.Method;
import java.lang.reflect.Modifier;
import java.nio.file.Files;
import java.nio.file.Path;
import java.util.Set;
import java.util.TreeSet;
import java.util.regex.Matcher;
import java.util.regex.Pattern;

/** The public face is the document's and no more, and the file keeps to the rules of LANGUAGE.md that can be read off. */
public final class FaceTest {
    private static final Check check = new Check();
    private static final String[] METHODS = {
        "avoid/2", "best/0", "breaks/5", "choice/1", "clash/0", "clashAt/1", "cost/1", "count/1", "fixed/1",
        "force/2", "forced/3", "lower/2", "mode/2", "needs/2", "pick/1", "price/1", "raise/2", "relaxAt/1",
        "rule/5", "score/5", "told/2", "weigh/2", "worth/3"};

    public static void main(String[] args) throws Exception {
        constants();
        methods();
        classesInside();
        String text = Files.readString(Path.of("src/main/java/WhyNots.java"));
        source(text);
        library(text);
        lengths(text);
        check.end();
    }

    private static void constants() {
        int seen = 0;
        for (Field field : WhyNots.class.getDeclaredFields()) {
            int flags = field.getModifiers();
            if (Modifier.isPublic(flags)) {
                seen++;
                check.holds(field.getName() + " is a constant int",
                        Modifier.isStatic(flags) && Modifier.isFinal(flags) && field.getType() == int.class);
            } else {
                check.holds(field.getName() + " is private", Modifier.isPrivate(flags));
            }
            check.holds(field.getName() + " is final, if static", !Modifier.isStatic(flags) || Modifier.isFinal(flags));
        }
        check.due("constants", seen, 5);
    }

    private static void methods() {
        check.holds("public and final", Modifier.isPublic(WhyNots.class.getModifiers())
                && Modifier.isFinal(WhyNots.class.getModifiers()));
        Constructor<?>[] made = WhyNots.class.getDeclaredConstructors();
        check.holds("one constructor, public, without parameters", made.length == 1
                && made[0].getParameterCount() == 0 && Modifier.isPublic(made[0].getModifiers()));
        TreeSet<String> want = new TreeSet<>(java.util.Arrays.asList(METHODS));
        TreeSet<String> names = new TreeSet<>();
        for (String one : METHODS) {
            names.add(one.substring(0, one.indexOf('/')));
        }
        TreeSet<String> got = new TreeSet<>();
        for (Method method : WhyNots.class.getDeclaredMethods()) {
            if (Modifier.isPublic(method.getModifiers())) {
                got.add(method.getName() + "/" + method.getParameterCount());
                check.holds(method.getName() + " answers an int", method.getReturnType() == int.class);
            } else {
                check.holds(method.getName() + " is private", Modifier.isPrivate(method.getModifiers()));
                check.holds(method.getName() + " is no public name", !names.contains(method.getName()));
            }
            check.holds(method.getName() + " takes seven at most", method.getParameterCount() <= 7);
        }
        check.holds("the methods are those of the document: " + got, got.equals(want));
    }

    private static void classesInside() {
        Class<?>[] all = WhyNots.class.getDeclaredClasses();
        check.holds("twelve classes at most", all.length < 12);
        sizes(WhyNots.class);
        for (Class<?> inside : all) {
            check.holds(inside.getName() + " is static and not public", Modifier.isStatic(inside.getModifiers())
                    && !Modifier.isPublic(inside.getModifiers()) && !Modifier.isProtected(inside.getModifiers()));
            sizes(inside);
            for (Method method : inside.getDeclaredMethods()) {
                check.holds(method.getName() + " is no public name", !isPublicName(method.getName()));
            }
        }
    }

    private static boolean isPublicName(String name) {
        for (String one : METHODS) {
            if (one.startsWith(name + "/")) {
                return true;
            }
        }
        return false;
    }

    private static void sizes(Class<?> one) {
        int fields = 0;
        for (Field field : one.getDeclaredFields()) {
            boolean isConstant = Modifier.isStatic(field.getModifiers());
            fields += isConstant ? 0 : 1;
            check.holds(field.getName() + " of " + one.getName() + " is final, if static",
                    !isConstant || Modifier.isFinal(field.getModifiers()));
            check.holds(field.getName() + " of " + one.getName() + " is a number, if static",
                    !isConstant || field.getType() == int.class);
        }
        check.holds(one.getName() + " has twenty fields at most", fields <= 20);
        for (Method method : one.getDeclaredMethods()) {
            check.holds(method.getName() + " takes seven at most", method.getParameterCount() <= 7);
        }
    }

    private static void source(String text) {
        String code = text.replaceAll("(?s)/\\*.*?\\*/", "").replaceAll("//[^\n]*", "");
        for (String word : new String[] {"throw", "throws", "try", "catch", "finally", "synchronized", "assert",
            "import", "package", "equals", "hashCode", "toString"}) {
            check.holds("no " + word, !Pattern.compile("\\b" + word + "\\b").matcher(code).find());
        }
        check.holds("no lambda, no method reference", !code.contains("->") && !code.contains("::"));
        // Nothing is made but with the object itself, so that no run of calls can fill the room.
        for (String line : code.split("\n")) {
            check.holds("made with the object: " + line.trim(), !line.contains("new ")
                    || line.matches("\\s*(private )?final \\S+ \\w+ = new .*;"));
        }
    }

    /** Rule 4: of the library nothing but the functions over numbers that it lists; rule 3: only Latin texts. */
    private static void library(String text) {
        Set<String> listed = Set.of("Math.abs", "Math.max", "Integer.bitCount");
        Matcher calls = Pattern.compile("\\b([A-Z]\\w*\\.\\w+)\\(").matcher(text);
        while (calls.find()) {
            check.holds(calls.group(1) + " is listed", listed.contains(calls.group(1)));
        }
        check.holds("no outside name", !Pattern.compile("\\b(java|javax|sun|System|Object|String)\\b").matcher(text).find());
        check.holds("no array of arrays", !text.contains("[][]"));
        check.holds("characters 0 to 255 alone", text.chars().allMatch(c -> c < 256));
    }

    /** Rule 11: methods stay short. A method's head stands as deep as the brace that ends it. */
    private static void lengths(String text) {
        String[] lines = text.split("\n");
        for (int head = 0; head < lines.length; head++) {
            if (!lines[head].matches(" {4,8}\\w[^=;]*\\(.*\\) \\{")) {
                continue;
            }
            String indent = lines[head].substring(0, lines[head].indexOf(lines[head].strip()));
            int end = head;
            while (end < lines.length - 1 && !lines[end].equals(indent + "}")) {
                end++;
            }
            check.holds("sixty lines at most: " + lines[head].strip(), end - head < 60);
        }
    }
}
