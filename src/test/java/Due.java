/** What the tests of this project share: answers that are due, texts put on the tape, numbers drawn. */
final class Due {
    private static int wrong = 0;
    private static int asked = 0;

    private Due() {
    }

    static void due(String call, long got, long want) {
        asked++;
        if (got != want) {
            wrong++;
            if (wrong <= 50) {
                System.out.println(call + " answered " + got + ", due is " + want);
            }
        }
    }

    static int wrong() {
        return wrong;
    }

    /** Ends the test: with exit code 1 if an answer was not as due. */
    static void end() {
        System.out.println(wrong == 0 ? asked + " answers are as due" : wrong + " answers are not as due");
        if (wrong != 0) {
            System.exit(1);
        }
    }

    static void tape(SeeSaws x, String text) {
        byte[] bytes = new byte[text.length()];
        for (int i = 0; i < bytes.length; i++) {
            bytes[i] = (byte) text.charAt(i);
        }
        x.end(0);
        for (int from = 0; from < bytes.length; from += 20) {
            x.feed(four(bytes, from), four(bytes, from + 4), four(bytes, from + 8),
                    four(bytes, from + 12), four(bytes, from + 16));
        }
        due("end(" + bytes.length + ")", x.end(bytes.length), bytes.length);
    }

    static int four(byte[] bytes, int from) {
        int number = 0;
        for (int i = from; i < from + 4; i++) {
            number = number << 8 | (i < bytes.length ? bytes[i] & 255 : 0);
        }
        return number;
    }

    static int law(SeeSaws x, String text) {
        tape(x, text);
        return x.law();
    }

    static int orders(SeeSaws x, String text) {
        tape(x, text);
        return x.orders();
    }

    /** A new law that is in force then. */
    static void forced(SeeSaws x, String text) {
        int law = law(x, text);
        due("law " + text, law < 0 ? -1 : 0, 0);
        x.force(law);
    }
}
