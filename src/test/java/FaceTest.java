import java.lang.reflect.Constructor;
import java.lang.reflect.Field;
import java.lang.reflect.Method;
import java.lang.reflect.Modifier;
import java.nio.file.Files;
import java.nio.file.Path;
import java.util.TreeSet;
import java.util.regex.Pattern;

/** The public face is the document's and no more, and the file keeps to the rules of LANGUAGE.md that can be read off. */
public final class FaceTest {
    private static final Check check = new Check();
    private static final String[] METHODS = {
        "avoid/2", "best/0", "breaks/5", "choice/1", "clash/0", "clashAt/1", "cost/1", "count/1", "fixed/1",
        "force/2", "forced/3", "lower/2", "mode/2", "needs/2", "pick/1", "price/1", "raise/2", "relaxAt/1",
        "rule/5", "score/5", "told/2", "weigh/2", "worth/3"};

    public static void main(String[] args) throws Exception {
        constants();
        methods();
        classesInside();
        source(Files.readString(Path.of("src/main/java/WhyNots.java")));
        check.end();
    }

    private static void constants() {
        int seen = 0;
        for (Field field : WhyNots.class.getDeclaredFields()) {
            int flags = field.getModifiers();
            if (Modifier.isPublic(flags)) {
                seen++;
                check.holds(field.getName() + " is a constant int",
                        Modifier.isStatic(flags) && Modifier.isFinal(flags) && field.getType() == int.class);
            } else {
                check.holds(field.getName() + " is private", Modifier.isPrivate(flags));
            }
            check.holds(field.getName() + " is final, if static", !Modifier.isStatic(flags) || Modifier.isFinal(flags));
        }
        check.due("constants", seen, 5);
    }

    private static void methods() {
        check.holds("public and final", Modifier.isPublic(WhyNots.class.getModifiers())
                && Modifier.isFinal(WhyNots.class.getModifiers()));
        Constructor<?>[] made = WhyNots.class.getDeclaredConstructors();
        check.holds("one constructor, public, without parameters", made.length == 1
                && made[0].getParameterCount() == 0 && Modifier.isPublic(made[0].getModifiers()));
        TreeSet<String> want = new TreeSet<>(java.util.Arrays.asList(METHODS));
        TreeSet<String> names = new TreeSet<>();
        for (String one : METHODS) {
            names.add(one.substring(0, one.indexOf('/')));
        }
        TreeSet<String> got = new TreeSet<>();
        for (Method method : WhyNots.class.getDeclaredMethods()) {
            if (Modifier.isPublic(method.getModifiers())) {
                got.add(method.getName() + "/" + method.getParameterCount());
                check.holds(method.getName() + " answers an int", method.getReturnType() == int.class);
            } else {
                check.holds(method.getName() + " is private", Modifier.isPrivate(method.getModifiers()));
                check.holds(method.getName() + " is no public name", !names.contains(method.getName()));
            }
            check.holds(method.getName() + " takes seven at most", method.getParameterCount() <= 7);
        }
        check.holds("the methods are those of the document: " + got, got.equals(want));
    }

    private static void classesInside() {
        for (Class<?> inside : WhyNots.class.getDeclaredClasses()) {
            check.holds(inside.getName() + " is static and not public", Modifier.isStatic(inside.getModifiers())
                    && !Modifier.isPublic(inside.getModifiers()) && !Modifier.isProtected(inside.getModifiers()));
        }
    }

    private static void source(String text) {
        String code = text.replaceAll("(?s)/\\*.*?\\*/", "").replaceAll("//[^\n]*", "");
        for (String word : new String[] {"throw", "throws", "try", "catch", "finally", "synchronized", "assert",
            "import", "package", "equals", "hashCode", "toString"}) {
            check.holds("no " + word, !Pattern.compile("\\b" + word + "\\b").matcher(code).find());
        }
        check.holds("no lambda, no method reference", !code.contains("->") && !code.contains("::"));
        // Nothing is made but with the object itself, so that no run of calls can fill the room.
        for (String line : code.split("\n")) {
            check.holds("made with the object: " + line.trim(), !line.contains("new ")
                    || line.matches("\\s*(private )?final \\S+ \\w+ = new .*;"));
        }
    }
}
