import java.lang.reflect.Method;
import java.lang.reflect.Modifier;
import java.util.ArrayList;
import java.util.List;
import java.util.Random;

/** No call throws, whatever it is given in whatever state; and the face has the document's methods alone. */
public final class NeverThrowsTest {
    private static final int[] NUMBERS = {Integer.MIN_VALUE, Integer.MIN_VALUE + 1, -1000000, -128, -7, -2, -1,
        0, 1, 2, 3, 4, 5, 6, 7, 8, 9, 10, 16, 17, 30, 31, 60, 61, 99, 100, 127, 128, 400, 999, 1000, 1000000,
        1000001, Integer.MAX_VALUE - 1, Integer.MAX_VALUE};
    private static final String[] TEXTS = {"", " ", "counts heavy*heavy*heavy*heavy*heavy*heavy*heavy",
        "sheds 9;bars if place=3 or 1%kind=0", "counts 99", "counts 0", "bars", "counts 1000*1000*1000*1000",
        "put 0 at 0;put 1 at 1;put 2 at 2;put 3 at 3;put 4 at 4;put 5 at 5;put 6 at 6",
        "pass times 20;pass times 20;pass times 20;pass times 20", "take 1000*1000*1000", "put 0-1 at 0-1",
        "put done at 6-done times 7", "pad done to 30-done times 7;pass times 3", "take at 0", ")", "(", "[", ";"};

    private static List<Method> face() {
        List<Method> methods = new ArrayList<>();
        for (Method method : SeeSaws.class.getDeclaredMethods()) {
            if (!Modifier.isPrivate(method.getModifiers())) {
                methods.add(method);
            }
        }
        methods.sort((a, b) -> a.getName().compareTo(b.getName()));
        return methods;
    }

    private static void call(SeeSaws x, Method method, int... numbers) {
        Object[] given = new Object[method.getParameterCount()];
        for (int i = 0; i < given.length; i++) {
            given[i] = numbers[i];
        }
        try {
            method.invoke(x, given);
        } catch (ReflectiveOperationException e) {
            Due.due(method.getName() + java.util.Arrays.toString(given) + " threw " + e.getCause(), 1, 0);
        }
    }

    private static int[] drawn(Random random) {
        int[] numbers = new int[5];
        for (int i = 0; i < 5; i++) {
            numbers[i] = random.nextInt(3) == 0 ? NUMBERS[random.nextInt(NUMBERS.length)] : random.nextInt(9) - 1;
        }
        return numbers;
    }

    private static void play(long seed, List<Method> face) {
        Random random = new Random(seed);
        SeeSaws x = new SeeSaws();
        for (int i = 0; i < 512; i++) {
            if (random.nextInt(12) == 0) {
                Due.tape(x, TEXTS[random.nextInt(TEXTS.length)]);
                if (random.nextBoolean()) {
                    x.orders();
                } else {
                    x.force(x.law());
                }
            } else {
                call(x, face.get(random.nextInt(face.size())), drawn(random));
            }
        }
    }

    public static void main(String[] args) {
        List<Method> face = face();
        Due.due("how many methods the face has", face.size(), 39);
        for (long seed = 0; seed < 300; seed++) {
            play(seed, face);
        }
        Due.end();
    }
}
