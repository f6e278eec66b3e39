/** What the tests share: a text on the tape, and answers held against what is due. */
final class Due {
    private static int wrong = 0;
    private static int asked = 0;
    private static String about = "";

    private Due() {
    }

    /** What is printed ahead of a wrong answer from now on. */
    static void about(String what) {
        about = what;
    }

    static void is(String call, long got, long want) {
        asked++;
        if (got != want) {
            wrong++;
            if (wrong <= 50) {
                System.out.println(about + call + " answered " + got + ", due is " + want);
            }
        }
    }

    static void is(String call, boolean got, boolean want) {
        is(call, got ? 1 : 0, want ? 1 : 0);
    }

    /** Several answers of one call, told in a row. */
    static void are(String call, int[] got, int... want) {
        is(call + " (how many)", got.length, want.length);
        for (int k = 0; k < got.length && k < want.length; k++) {
            is(call + " [" + k + "]", got[k], want[k]);
        }
    }

    /** The five numbers of feed() that hold twenty bytes from a place on, filled up by zeros. */
    static int[] numbers(byte[] bytes, int from) {
        int[] five = new int[5];
        for (int k = 0; k < 20; k++) {
            int octet = from + k < bytes.length ? bytes[from + k] & 255 : 0;
            five[k / 4] = five[k / 4] << 8 | octet;
        }
        return five;
    }

    static void feed(BlissMarket x, byte[] bytes) {
        for (int from = 0; from < bytes.length; from += 20) {
            int[] n = numbers(bytes, from);
            x.feed(n[0], n[1], n[2], n[3], n[4]);
        }
        x.end(bytes.length);
    }

    static byte[] bytes(String text) {
        byte[] bytes = new byte[text.length()];
        for (int k = 0; k < bytes.length; k++) {
            bytes[k] = (byte) text.charAt(k);
        }
        return bytes;
    }

    /** A new object with that text read. */
    static BlissMarket told(String text) {
        BlissMarket x = new BlissMarket();
        feed(x, bytes(text));
        int got = x.capital();
        is("capital of " + text + " without a fault", got >= 0, true);
        return x;
    }

    /** The text's first FAULT and its place, on a new object. */
    static void fault(String text, int kind, int place) {
        BlissMarket x = new BlissMarket();
        feed(x, bytes(text));
        int got = x.capital();
        is("capital of <" + text + "> refused", got == BlissMarket.NONE, kind != 0);
        is("fault(0) of <" + text + ">", x.fault(0), kind);
        is("fault(1) of <" + text + ">", x.fault(1), place);
    }

    /** The FAULT is where the ^ stands, which is no part of the text. */
    static void fault(int kind, String marked) {
        int place = marked.indexOf('^');
        fault(marked.substring(0, place) + marked.substring(place + 1), kind, place);
    }

    /** The text has no FAULT, and so many STATEMENTS. */
    static void fine(String text, int statements) {
        BlissMarket x = new BlissMarket();
        feed(x, bytes(text));
        is("capital of <" + text + ">", x.capital(), statements);
        is("fault(0)", x.fault(0), 0);
        is("fault(1)", x.fault(1), BlissMarket.NONE);
    }

    static void close(String name) {
        System.out.println(name + ": " + asked + " answers, " + wrong + " not as due");
        if (wrong != 0) {
            System.exit(1);
        }
    }
}
