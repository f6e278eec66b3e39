/** Texts that many tests need, and what is often done with them. */
final class Town {
    /** One FACT, one PERSON who does not know it yet. */
    static final String A = "fact a day 0 worth 1;";
    static final String B = "fact b day 0 worth 1;";
    static final String P = "person p street 0 purse 0;";
    static final String Q = "person q street 0 purse 0;";

    private Town() {
    }

    /** FACTS a, b, .. (12 at most), all of that day and worth. */
    static String facts(int count, int day, int worth) {
        return many(count, "fact # day " + day + " worth " + worth + ";", 'a');
    }

    /** PEOPLE p, q, .. (8 at most), all of that street and purse. */
    static String people(int count, int street, int purse) {
        return many(count, "person # street " + street + " purse " + purse + ";", 'p');
    }

    /** That line so often; # is another letter each time. */
    static String many(int count, String line, char first) {
        StringBuilder s = new StringBuilder();
        for (int k = 0; k < count; k++) {
            s.append(line.replace('#', (char) (first + k)));
        }
        return s.toString();
    }

    static String many(int count, String line) {
        return many(count, line, 'a');
    }

    /** Thirty DAYS at once go by, and at last single ones. */
    static void goTo(BlissMarket x, int day) {
        while (x.has(6) + 30 <= day) {
            x.days(30);
        }
        while (x.has(6) < day) {
            x.days(1);
        }
    }

    /** AN IMAGE of these two-byte numbers, with its last byte. */
    static byte[] image(int... numbers) {
        byte[] bytes = new byte[2 * numbers.length + 1];
        for (int k = 0; k < numbers.length; k++) {
            bytes[2 * k] = (byte) (numbers[k] >> 8);
            bytes[2 * k + 1] = (byte) numbers[k];
        }
        check(bytes);
        return bytes;
    }

    /** The last byte, by all those ahead. */
    static void check(byte[] bytes) {
        int c = 101;
        for (int k = 0; k + 1 < bytes.length; k++) {
            c = (5 * c + (bytes[k] & 255)) % 251;
        }
        bytes[bytes.length - 1] = (byte) c;
    }

    static boolean on(BlissMarket x, int... numbers) {
        Due.feed(x, image(numbers));
        return x.on();
    }

    /** All that is now, but for the seed, in a row. */
    static String all(BlissMarket x) {
        StringBuilder s = new StringBuilder();
        for (int what = 0; what <= 11; what++) {
            s.append(x.has(what)).append(' ');
        }
        for (int p = 0; p < x.has(2); p++) {
            for (int what = 0; what < 6; what++) {
                s.append(x.person(p, what)).append(' ');
            }
            for (int f = 0; f < x.has(0); f++) {
                s.append(x.licence(p, f)).append(' ').append(x.price(p, f, 3)).append(' ');
            }
        }
        for (int f = 0; f < x.has(0); f++) {
            for (int what = 0; what < 6; what++) {
                s.append(x.fact(f, what)).append(' ');
            }
        }
        for (int k = 0; k < x.has(10); k++) {
            for (int what = 0; what < 4; what++) {
                s.append(x.kept(k, what)).append(' ');
            }
        }
        return s.toString();
    }

    static void same(String what, String got, String want) {
        Due.is(what + ": <" + got + ">, due is <" + want + ">", got.equals(want), true);
    }
}
