import java.lang.reflect.Constructor;
import java.lang.reflect.Field;
import java.lang.reflect.Method;
import java.lang.reflect.Modifier;
import java.util.Arrays;
import java.util.Comparator;
import java.util.NoSuchElementException;
import java.util.Random;
import java.util.TreeSet;

/** The public face as the document has it, and no exception but the document's from whatever calls. */
public final class FaceTest {
    private static final Checks checks = new Checks();
    private static final String[] FACE = {
        "int feed int int int int int", "int text int", "int fault int", "int named int int", "int look int int",
        "int round int", "int day int", "int months int", "int years int int", "int place int int int",
        "int sort int", "int mend int int", "long odds int int int", "int born int int", "int toll int int",
        "int reading int int", "int pairs int", "int pair int", "int one int int", "boolean known int",
        "int event int", "int slips int int", "int copied int", "int from int int", "long worth int int",
        "int said int", "long untold int int", "int next int int", "int events", "int share int",
        "long many int int int int", "int chance int int", "int sun int", "int hidden int", "int seen int",
        "boolean doubt int boolean", "int doubted", "int draws int int int", "int luck int int", "int count int"};
    private static final int[] NUMBERS = {-2147483648, -2147483647, -1000, -60, -3, -2, -1, 0, 1, 2, 3, 4, 5, 9, 10, 11,
        12, 13, 20, 21, 31, 32, 59, 60, 61, 119, 120, 121, 500, 501, 1999, 2000, 2999, 3000, 707999, 708000, 2147483647};

    public static void main(String[] args) throws Exception {
        face();
        Random random = new Random(9);
        for (int run = 0; run < 400; run++) {
            wildCalls(random, run);
        }
        checks.finish("FaceTest");
    }

    private static void face() throws Exception {
        Class<?> face = GuestStars.class;
        checks.due("a public final class", Modifier.isPublic(face.getModifiers()) && Modifier.isFinal(face.getModifiers()), true);
        TreeSet<String> got = new TreeSet<>();
        for (Method method : face.getDeclaredMethods()) {
            if (Modifier.isPrivate(method.getModifiers())) {
                for (String row : FACE) {
                    checks.due("private " + method.getName(), row.split(" ")[1].equals(method.getName()), false);
                }
                continue;
            }
            checks.due("public " + method, Modifier.isPublic(method.getModifiers()) && !Modifier.isStatic(method.getModifiers()), true);
            StringBuilder row = new StringBuilder(method.getReturnType() + " " + method.getName());
            for (Class<?> type : method.getParameterTypes()) {
                row.append(' ').append(type);
            }
            got.add(row.toString());
        }
        if (!got.equals(new TreeSet<>(Arrays.asList(FACE)))) {
            System.out.println("the face is " + got);
        }
        checks.due("the document's methods", got.equals(new TreeSet<>(Arrays.asList(FACE))), true);
        for (Constructor<?> made : face.getDeclaredConstructors()) {
            checks.due("the constructor", Modifier.isPublic(made.getModifiers()) && made.getParameterCount() == 0, true);
        }
        for (Field field : face.getDeclaredFields()) {
            boolean constant = Modifier.isStatic(field.getModifiers());
            checks.due("final " + field, !constant || Modifier.isFinal(field.getModifiers()), true);
            checks.due("private " + field, Modifier.isPrivate(field.getModifiers()), !field.getName().equals("NONE"));
        }
        checks.due("NONE", GuestStars.NONE, -1);
    }

    /** Up to 512 calls with numbers from the edges, on an object that was told a full text or none. */
    private static void wildCalls(Random random, int run) throws Exception {
        GuestStars stars = new GuestStars();
        int calls = 0;
        if (run % 4 != 0) {
            String text = fullText(random);
            checks.due("it fits", text.length() <= 800, true);
            checks.due("text of " + text, Checks.tell(stars, text) > 0, true);
            calls = 42;
        }
        Method[] methods = GuestStars.class.getDeclaredMethods();
        // The machine may tell the methods in any order; the calls shall be the same each time.
        Arrays.sort(methods, Comparator.comparing(Method::getName));
        for (; calls < 512; calls++) {
            Method method = methods[random.nextInt(methods.length)];
            if (!Modifier.isPublic(method.getModifiers()) || method.getName().equals("text") && random.nextInt(10) > 0) {
                continue;
            }
            Class<?>[] types = method.getParameterTypes();
            Object[] values = new Object[types.length];
            for (int k = 0; k < types.length; k++) {
                values[k] = types[k] == boolean.class ? (Object) random.nextBoolean()
                    : (Object) (random.nextInt(3) > 0 ? random.nextInt(13) : NUMBERS[random.nextInt(NUMBERS.length)]);
            }
            try {
                method.invoke(stars, values);
            } catch (java.lang.reflect.InvocationTargetException e) {
                Throwable thrown = e.getCause();
                boolean asSaid = method.getName().equals("look") && (thrown.getClass() == IndexOutOfBoundsException.class
                    || thrown.getClass() == NoSuchElementException.class);
                checks.due(method.getName() + Arrays.toString(values) + " threw " + thrown, asSaid, true);
            }
        }
    }

    private static String fullText(Random random) {
        StringBuilder text = new StringBuilder("limit " + random.nextInt(1000) + ";blur " + random.nextInt(100)
            + ";turn " + random.nextInt(60) + ";reign r " + random.nextInt(1901) + " 60;gate g " + random.nextInt(120) + " "
            + random.nextInt(60) + ";book a;book b from a;sort s 9 lasts*lasts/tail;sort t 1 not(tail-1);watch 0 1999 9;");
        for (int k = 0; k < 12; k++) {
            text.append(random.nextBoolean() ? "rock 0 9" : "guest r " + (1 + random.nextInt(60)) + " 1 9");
            text.append(random.nextBoolean() ? " in a" : " in b").append(random.nextBoolean() ? " near g 9 east" : " tail").append(';');
        }
        for (int k = 0; k < 10 && text.length() < 770; k++) {
            text.append("cloud ").append(random.nextInt(120)).append(" 9plate 9 9plate 99 ").append(10 + random.nextInt(90)).append(';');
        }
        return text.toString();
    }
}
