import java.util.Arrays;

/** A call of the class by its name, so that a table can name calls. */
final class Call {
    private Call() {
    }

    static int on(WhyNots x, String name, int... numbers) {
        Class<?>[] types = new Class<?>[numbers.length];
        Arrays.fill(types, int.class);
        Object[] arguments = Arrays.stream(numbers).boxed().toArray();
        try {
            return (int) WhyNots.class.getMethod(name, types).invoke(x, arguments);
        } catch (ReflectiveOperationException e) {
            throw new IllegalStateException(text(name, numbers), e);
        }
    }

    static String text(String name, int... numbers) {
        String inside = Arrays.toString(numbers);
        return name + "(" + inside.substring(1, inside.length() - 1) + ")";
    }
}
