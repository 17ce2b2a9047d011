import java.lang.reflect.Method;
import java.lang.reflect.Modifier;
import java.util.Arrays;

/** What the tests of this project share: answers that are due, planks to begin with, texts put on the tape. */
final class Due {
    private static int wrong = 0;
    private static int asked = 0;

    private Due() {
    }

    static void due(String call, long got, long want) {
        asked++;
        if (got != want) {
            wrong++;
            if (wrong <= 50) {
                System.out.println(call + " answered " + got + ", due is " + want);
            }
        }
    }

    static int wrong() {
        return wrong;
    }

    /** Ends the test: with exit code 1 if an answer was not as due. */
    static void end() {
        System.out.println(wrong == 0 ? asked + " answers are as due" : wrong + " answers are not as due");
        if (wrong != 0) {
            System.exit(1);
        }
    }

    /** Runs all of a test's methods that are static and take nothing, so that none is left out; then ends. */
    static void runAll(Class<?> test) throws ReflectiveOperationException {
        Method[] methods = test.getDeclaredMethods();
        Arrays.sort(methods, (a, b) -> a.getName().compareTo(b.getName()));
        int run = 0;
        for (Method method : methods) {
            if (Modifier.isStatic(method.getModifiers()) && method.getParameterCount() == 0
                    && method.getReturnType() == void.class) {
                int before = wrong;
                method.setAccessible(true);
                method.invoke(null);
                run++;
                if (wrong > before) {
                    System.out.println("  .. in " + test.getSimpleName() + "." + method.getName());
                }
            }
        }
        System.out.print(run + " tests, ");
        end();
    }

    /** A plank with claims that are so heavy, of kind 0, all OFF. */
    static SeeSaws plank(int... heavies) {
        SeeSaws x = new SeeSaws();
        for (int heavy : heavies) {
            x.claim(heavy, 0);
        }
        return x;
    }

    /** Claims by twos: how heavy, at which place (7: OFF). */
    static SeeSaws placed(int... twos) {
        SeeSaws x = new SeeSaws();
        for (int i = 0; i < twos.length; i += 2) {
            x.claim(twos[i], 0);
        }
        for (int i = 0; i < twos.length; i += 2) {
            if (twos[i + 1] < 7) {
                x.put(i / 2, twos[i + 1]);
            }
        }
        return x;
    }

    /** Seven claims, each so heavy, all at one place (7: OFF). */
    static SeeSaws seven(int heavy, int place) {
        int[] twos = new int[14];
        for (int i = 0; i < 14; i += 2) {
            twos[i] = heavy;
            twos[i + 1] = place;
        }
        return placed(twos);
    }

    static String repeated(String what, int times, String between) {
        StringBuilder s = new StringBuilder();
        for (int i = 0; i < times; i++) {
            s.append(i == 0 ? "" : between).append(what);
        }
        return s.toString();
    }

    static void tape(SeeSaws x, String text) {
        byte[] bytes = new byte[text.length()];
        for (int i = 0; i < bytes.length; i++) {
            bytes[i] = (byte) text.charAt(i);
        }
        x.end(0);
        for (int from = 0; from < bytes.length; from += 20) {
            x.feed(four(bytes, from), four(bytes, from + 4), four(bytes, from + 8),
                    four(bytes, from + 12), four(bytes, from + 16));
        }
        due("end(" + bytes.length + ")", x.end(bytes.length), bytes.length);
    }

    static int four(byte[] bytes, int from) {
        int number = 0;
        for (int i = from; i < from + 4; i++) {
            number = number << 8 | (i < bytes.length ? bytes[i] & 255 : 0);
        }
        return number;
    }

    static int law(SeeSaws x, String text) {
        tape(x, text);
        return x.law();
    }

    static int orders(SeeSaws x, String text) {
        tape(x, text);
        return x.orders();
    }

    /** A new law that is in force then. */
    static void forced(SeeSaws x, String text) {
        int law = law(x, text);
        due("law " + text, law < 0 ? -1 : 0, 0);
        x.force(law);
    }
}
