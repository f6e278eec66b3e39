import java.io.IOException;

/**
 * Promises 21 to 35 and part III. of the Terms, sentence by sentence: a test of
 * its own for each one that names a boundary case.
 */
public final class BoundaryAskedTest {
    private static final int NONE = BlissMarket.NONE;
    private static final String A = Town.A;
    private static final String P = Town.P;
    private static final String Q = Town.Q;
    private static final String R = "person r street 0 purse 0;";
    private static final int MOST = Integer.MAX_VALUE;
    private static final int LEAST = Integer.MIN_VALUE;
    /** What can be no PERSON, FACT, or the like where there are so many. */
    private static final int[] ODD = {-1, LEAST, MOST, 32, 64, 256};

    private BoundaryAskedTest() {
    }

    public static void main(String[] args) throws IOException {
        Sentences s = new Sentences();
        ahead(s);
        when(s);
        breach(s);
        bliss(s);
        surprise(s);
        follows(s);
        by(s);
        barred(s);
        cheapest(s);
        seeds(s);
        seeded(s);
        face(s);
        restByItsWords(s);
        rest(s);
        imageByItsWords(s);
        image(s);
        on(s);
        notOn(s);
        status(s);
        s.closePromises(21, 35);
        s.closeTerms("III. ", "The constants:");
        s.close("BoundaryAskedTest");
    }

    private static int[] breach(BlissMarket x) {
        return new int[] {x.breach(0), x.breach(1), x.breach(2), x.breach(3)};
    }

    private static int[] rest(BlissMarket x) {
        return new int[] {x.rest(0), x.rest(1), x.rest(2), x.rest(3)};
    }

    private static int[] by(BlissMarket x, int facts, int fact) {
        int[] row = new int[Math.max(0, x.by(facts, fact, NONE))];
        for (int k = 0; k < row.length; k++) {
            row[k] = x.by(facts, fact, k);
        }
        return row;
    }

    /** How many and which PEOPLE, or NONE alone. */
    private static int[] seeded(BlissMarket x, int n) {
        int count = x.seeded(n, NONE);
        int[] row = new int[Math.max(0, count) + 1];
        row[0] = count;
        for (int k = 1; k < row.length; k++) {
            row[k] = x.seeded(n, k - 1);
        }
        return row;
    }

    // ------------------------------------------------------------ promises 21 to 24: AHEAD

    private static void ahead(Sentences s) {
        s.hold(21, "AHEAD are DAYS as they go by from now on without other ACTS (40 at most", () -> {
            BlissMarket x = Due.told("fact a day 39 worth 1;fact b day 40 worth 2;fact c day 41 worth 4;" + P + Q);
            Due.are("when", new int[] {x.when(0, 0), x.when(0, 1), x.when(0, 2)}, 39, 40, NONE);
            x.days(1);
            Due.are("a DAY later", new int[] {x.when(0, 0), x.when(0, 1), x.when(0, 2)}, 39, 40, 41);
            String before = Town.all(x);
            x.breach(0);
            x.bliss(0, 40);
            x.surprise(3, 0, 40);
            x.seeded(40, NONE);
            x.rest(0);
            Town.same("asking changes nothing", Town.all(x), before);
        });
        s.hold(21, ", not beyond DAY 999).", () -> {
            String text = "fact a day 999 worth 5;fact b day 998 worth 7;fact c day 0 worth 9;" + P + "licence p c till 999;";
            BlissMarket x = Due.told(text);
            Town.goTo(x, 958);
            Due.is("41 DAYS from now", x.when(0, 0), NONE);
            x.days(1);
            Due.are("40", new int[] {x.when(0, 0), x.bliss(0, 40), x.surprise(1, 0, 40), x.seeded(40, NONE)}, 999, 9, 0, 1);
            x.days(1);
            Due.are("by DAY 999", new int[] {x.when(0, 0), x.when(0, 2), x.bliss(0, 39), x.surprise(1, 0, 39), x.surprise(1, 2, 39), x.seeded(39, NONE)},
                999, NONE, 9, 0, 1, 1);
            Due.are("beyond", new int[] {x.bliss(0, 40), x.surprise(1, 0, 40), x.seeded(40, NONE)}, NONE, NONE, NONE);
            x.days(30);
            x.days(9);
            Due.are("on DAY 999", new int[] {x.has(6), x.when(0, 0), x.when(0, 2), x.bliss(0, 0), x.surprise(1, 0, 0), x.seeded(0, NONE), x.breach(0)},
                999, 999, NONE, 9, 0, 1, NONE);
            Due.are("beyond", new int[] {x.bliss(0, 1), x.surprise(1, 0, 1), x.seeded(1, NONE)}, NONE, NONE, NONE);
        });
    }

    private static void when(Sentences s) {
        s.hold(21, "WHEN one learns a FACT: the DAY.", () -> {
            BlissMarket x = Due.told("fact a day 3 worth 1;fact b day 900 worth 1;rule b from a;" + P + Q + R + "licence q a till 4;licence r a till 20;meets p q on 3;"
                + "meets q r on 6;tells not worth=1 or day=6;");
            Due.are("a", new int[] {x.when(0, 0), x.when(1, 0), x.when(2, 0)}, 3, 5, 21);
            Due.are("b, by a RULE, and told on DAY 6", new int[] {x.when(0, 1), x.when(1, 1), x.when(2, 1)}, 3, 5, 6);
        });
        s.hold(21, "WHEN a PERSON learns a FACT, AHEAD (this DAY, if he knows it)", () -> {
            BlissMarket x = Due.told(A + "fact b day 1 worth 1;" + P);
            Due.are("on DAY 0", new int[] {x.when(0, 0), x.when(0, 1)}, 0, 1);
            x.days(1);
            Due.are("on DAY 1", new int[] {x.when(0, 0), x.when(0, 1)}, 1, 1);
            Town.goTo(x, 999);
            Due.are("on DAY 999", new int[] {x.when(0, 0), x.when(0, 1)}, 999, 999);
        });
        s.hold(21, "; NONE when he does not, or there are none such.", () -> {
            BlissMarket x = Due.told(Town.facts(2, 0, 1) + "fact c day 41 worth 1;" + P + Q + "licence p a till 39;licence p b till 40;");
            Due.are("40, 41 DAYS", new int[] {x.when(0, 0), x.when(0, 1), x.when(1, 2)}, 40, NONE, NONE);
            Due.are("none such", new int[] {x.when(2, 0), x.when(0, 3)}, NONE, NONE);
            for (int odd : ODD) {
                Due.are("odd", new int[] {x.when(odd, 0), x.when(1, odd)}, NONE, NONE);
            }
        });
    }

    private static void breach(Sentences s) {
        s.hold(22, "The first BREACH AHEAD that is not yet: 0 DAY, 1 PERSON, 2 FACT, 3 RULE", () -> {
            BlissMarket x = Due.told("fact a day 0 worth 1;fact b day 900 worth 1;fact c day 1 worth 1;fact d day 900 worth 1;fact e day 40 worth 1;fact f day 900 worth 1;"
                + "rule b from a;rule f from e;rule d from c;" + P + Q + "licence p b till 9;licence p d till 9;licence q d till 9;licence q f till 50;");
            Due.is("one is KEPT", x.has(10), 1);
            Due.are("the next one, of p ahead of q", breach(x), 1, 0, 3, 2);
            x.days(1);
            Due.are("40 is within", breach(x), 40, 1, 5, 1);
            x.days(30);
            Due.are("still", breach(x), 40, 1, 5, 1);
            x.days(9);
            Due.are("it was", new int[] {x.has(10), x.breach(0)}, 4, NONE);
            BlissMarket far = Due.told("fact a day 40 worth 1;fact b day 900 worth 1;rule b from a;" + P + "licence p b till 40;");
            Due.are("40 DAYS AHEAD", breach(far), 40, 0, 1, 0);
            BlissMarket many = Due.told("stock 99;fact a day 1 worth 1;" + Town.many(6, "fact # day 900 worth 1;", 'b') + Town.many(6, "rule # from a;", 'b')
                + Town.people(8, 0, 0));
            for (int k = 0; k < 48; k++) {
                many.buy(k / 6, k % 6 + 1, 9);
            }
            Due.are("the first of 48, not of those that are KEPT", breach(many), 1, 0, 1, 0);
        });
        s.hold(22, ". NONE without, or for others.", () -> {
            String text = "fact b day 900 worth 1;rule b from a;" + P + "licence p b till ";
            BlissMarket x = Due.told("fact a day 1 worth 1;" + text + "9;");
            Due.are("others", new int[] {x.breach(4), x.breach(-1), x.breach(MOST), x.breach(LEAST)}, NONE, NONE, NONE, NONE);
            Due.are("41 DAYS", breach(Due.told("fact a day 41 worth 1;" + text + "99;")), NONE, NONE, NONE, NONE);
            Due.are("not VALID any more", breach(Due.told("fact a day 10 worth 1;" + text + "9;")), NONE, NONE, NONE, NONE);
            Due.are("nobody", breach(new BlissMarket()), NONE, NONE, NONE, NONE);
            BlissMarket last = Due.told("fact a day 999 worth 1;fact b day 999 worth 1;rule b from a;" + P + "licence p b till 999;");
            Town.goTo(last, 970);
            Due.are("on DAY 999", breach(last), 999, 0, 1, 0);
            last.days(29);
            Due.are("no DAY is left", breach(last), NONE, NONE, NONE, NONE);
        });
    }

    private static void bliss(Sentences s) {
        s.hold(23, "BLISS of a PERSON n DAYS AHEAD (0 .. 40)", () -> {
            BlissMarket x = Due.told("fact a day 0 worth 1;fact b day 1 worth 10;fact c day 40 worth 50;" + P + Q + "licence p a till 0;licence p b till 39;licence p c till 40;");
            Due.are("p", new int[] {x.bliss(0, 0), x.bliss(0, 1), x.bliss(0, 39), x.bliss(0, 40)}, 1, 10, 10, 50);
            Due.are("q", new int[] {x.bliss(1, 0), x.bliss(1, 40)}, 0, 0);
            x.days(1);
            Due.are("from DAY 1 on", new int[] {x.bliss(0, 0), x.bliss(0, 39), x.bliss(0, 40)}, 10, 50, 0);
        });
        s.hold(23, "; NONE when there are none such.", () -> {
            BlissMarket x = Due.told(A + P + Q);
            Due.are("n", new int[] {x.bliss(0, 41), x.bliss(0, -1), x.bliss(0, MOST), x.bliss(0, LEAST)}, NONE, NONE, NONE, NONE);
            Due.is("bliss(2, 0)", x.bliss(2, 0), NONE);
            for (int odd : ODD) {
                Due.is("bliss(" + odd + ", 0)", x.bliss(odd, 0), NONE);
            }
        });
    }

    private static void surprise(Sentences s) {
        s.hold(24, "SURPRISE: whether none of some PEOPLE learns a FACT by a DAY AHEAD.", () -> {
            BlissMarket x = Due.told("fact a day 3 worth 1;" + P + Q + R + "licence q a till 9;licence r a till 20;");
            Due.are("p", new int[] {x.surprise(1, 0, 2), x.surprise(1, 0, 3), x.surprise(1, 0, 4)}, 1, 0, 0);
            Due.are("q", new int[] {x.surprise(2, 0, 9), x.surprise(2, 0, 10)}, 1, 0);
            Due.are("two of them", new int[] {x.surprise(6, 0, 9), x.surprise(6, 0, 10), x.surprise(5, 0, 3)}, 1, 0, 0);
            x.word(0, 0);
            Due.are("one who knows it", new int[] {x.surprise(1, 0, 0), x.surprise(7, 0, 0), x.surprise(6, 0, 0)}, 0, 0, 1);
        });
        s.hold(24, "SURPRISE: 1, 0, for PEOPLE as bits, n DAYS AHEAD (0 .. 40)", () -> {
            BlissMarket x = Due.told("fact a day 0 worth 1;fact b day 40 worth 1;" + Town.people(8, 0, 0));
            Due.are("none of none", new int[] {x.surprise(0, 0, 0), x.surprise(0, 0, 40)}, 1, 1);
            Due.are("all, today and 40 DAYS AHEAD", new int[] {x.surprise(255, 0, 0), x.surprise(255, 1, 0), x.surprise(255, 1, 39), x.surprise(255, 1, 40),
                x.surprise(128, 1, 40)}, 0, 1, 1, 0, 0);
            BlissMarket last = Due.told("fact a day 9 worth 1;" + Town.people(8, 0, 0) + "licence w a till 9;");
            Due.are("the last one alone", new int[] {last.surprise(128, 0, 9), last.surprise(127, 0, 9), last.surprise(128, 0, 10)}, 1, 0, 0);
        });
        s.hold(24, "; NONE when there are none such.", () -> {
            BlissMarket x = Due.told(A + P + Q);
            Due.are("PEOPLE", new int[] {x.surprise(4, 0, 0), x.surprise(7, 0, 0), x.surprise(-1, 0, 0), x.surprise(MOST, 0, 0), x.surprise(LEAST, 0, 0)},
                NONE, NONE, NONE, NONE, NONE);
            Due.are("FACT", new int[] {x.surprise(3, 1, 0), x.surprise(3, -1, 0), x.surprise(0, MOST, 0), x.surprise(0, LEAST, 0), x.surprise(0, 32, 0)},
                NONE, NONE, NONE, NONE, NONE);
            Due.are("n", new int[] {x.surprise(3, 0, 41), x.surprise(3, 0, -1), x.surprise(3, 0, MOST), x.surprise(3, 0, LEAST)}, NONE, NONE, NONE, NONE);
            Due.are("nobody", new int[] {Due.told(A).surprise(0, 0, 0), Due.told(A).surprise(1, 0, 0)}, 1, NONE);
            Due.is("eight and one", Due.told(A + Town.people(8, 0, 0)).surprise(256, 0, 0), NONE);
        });
    }

    // ------------------------------------------------------------ promises 25 to 27

    private static void follows(Sentences s) {
        s.hold(25, "FOLLOWS: what one who knows some FACTS can INFER", () -> {
            BlissMarket x = Due.told(Town.facts(12, 0, 1) + "rule l from k;rule k from j;rule j from i;rule i from h;rule h from g;rule g from f;rule f from e;"
                + "rule e from d;rule d from c;rule c from b;rule b from a;");
            Due.are("a chain", new int[] {x.follows(1), x.follows(2), x.follows(1024), x.follows(2048)}, 4095, 4094, 3072, 2048);
            BlissMarket y = Due.told(Town.facts(4, 0, 1) + "rule d from a b c;");
            Due.are("all but one, all", new int[] {y.follows(3), y.follows(6), y.follows(7)}, 3, 6, 15);
        });
        s.hold(25, "FOLLOWS: all FACTS that one knows then who knows some, as bits", () -> {
            BlissMarket x = Due.told(Town.facts(3, 0, 1) + "rule c from a;");
            Due.are("the ones themselves, too", new int[] {x.follows(0), x.follows(1), x.follows(2), x.follows(4), x.follows(7)}, 0, 5, 2, 4, 7);
        });
        s.hold(25, "; NONE when there are none such.", () -> {
            BlissMarket x = Due.told(Town.facts(3, 0, 1));
            Due.are("follows", new int[] {x.follows(8), x.follows(-1), x.follows(15), x.follows(MOST), x.follows(LEAST)}, NONE, NONE, NONE, NONE, NONE);
            BlissMarket all = Due.told(Town.facts(12, 0, 1));
            Due.are("of twelve", new int[] {all.follows(4095), all.follows(4096)}, 4095, NONE);
            Due.are("of none", new int[] {new BlissMarket().follows(0), new BlissMarket().follows(1)}, 0, NONE);
        });
    }

    private static void by(Sentences s) {
        s.hold(26, "; the row of RULES by which one of these follows: RULE by RULE as they are told, again and again, each that gives something new", () -> {
            BlissMarket x = Due.told(Town.facts(5, 0, 1) + "rule e from d c;rule d from c;rule b from a;rule c from b;rule d from a;rule c from a;");
            // the first row gives b (2), c (3), d (4); the second one e (0)
            Due.are("e from a", by(x, 1, 4), 2, 3, 4, 0);
            Due.are("d from a", by(x, 1, 3), 4);
            Due.are("c from a", by(x, 1, 2), 2, 3);
            Due.are("e from c: d (1), then e (0)", by(x, 4, 4), 1, 0);
            Due.are("what is there already is nothing new", by(x, 5, 4), 1, 0);
        });
        s.hold(26, "; of that row those that are needed for it: from its end backwards each one whose FACT is it, or is needed by one that is needed.", () -> {
            BlissMarket x = Due.told(Town.facts(6, 0, 1) + "rule b from a;rule c from a;rule d from b;rule e from c;rule f from d;");
            Due.are("f", by(x, 1, 5), 0, 2, 4);
            Due.are("e", by(x, 1, 4), 1, 3);
            Due.are("b", by(x, 1, 1), 0);
            BlissMarket both = Due.told(Town.facts(5, 0, 1) + "rule b from a;rule c from a;rule d from b c;rule e from d;");
            Due.are("all of them", by(both, 1, 4), 0, 1, 2, 3);
            Due.are("c is there", by(both, 5, 4), 0, 2, 3);
            Due.are("d is there", by(both, 9, 4), 3);
        });
        s.hold(26, "The k-th RULE by which a FACT follows from some; how many (k NONE; 0 when it is one of them)", () -> {
            BlissMarket x = Due.told(Town.facts(12, 0, 1) + "rule l from k;rule k from j;rule j from i;rule i from h;rule h from g;rule g from f;rule f from e;"
                + "rule e from d;rule d from c;rule c from b;rule b from a;rule a from l;");
            Due.is("eleven", x.by(1, 11, NONE), 11);
            Due.are("the first, the last", new int[] {x.by(1, 11, 0), x.by(1, 11, 10)}, 10, 0);
            Due.are("one of them, though a RULE gives it", new int[] {x.by(1, 0, NONE), x.by(4095, 11, NONE), x.by(2048, 11, NONE)}, 0, 0, 0);
        });
        s.hold(26, ". NONE when it does not, or there are none such.", () -> {
            BlissMarket x = Due.told(Town.facts(3, 0, 1) + "rule c from a b;");
            Due.are("it does not", new int[] {x.by(1, 2, NONE), x.by(1, 2, 0), x.by(0, 0, NONE), x.by(7 & ~1, 0, NONE)}, NONE, NONE, NONE, NONE);
            Due.are("k", new int[] {x.by(3, 2, 0), x.by(3, 2, 1), x.by(3, 2, -2), x.by(3, 2, MOST), x.by(3, 2, LEAST), x.by(4, 2, 0)},
                0, NONE, NONE, NONE, NONE, NONE);
            Due.are("FACTS", new int[] {x.by(8, 2, NONE), x.by(-1, 2, NONE), x.by(MOST, 2, NONE), x.by(LEAST, 2, NONE), x.by(11, 2, NONE)},
                NONE, NONE, NONE, NONE, NONE);
            Due.are("FACT", new int[] {x.by(3, 3, NONE), x.by(3, -1, NONE), x.by(3, 32, NONE), x.by(3, MOST, NONE), x.by(3, LEAST, NONE)},
                NONE, NONE, NONE, NONE, NONE);
            Due.is("of none", new BlissMarket().by(0, 0, NONE), NONE);
        });
    }

    private static void barred(Sentences s) {
        s.hold(27, "BARRED: the fewest of some FACTS, but for the one asked (which counts for nothing among them), without which it does not follow from the others", () -> {
            BlissMarket x = Due.told(Town.facts(5, 0, 1) + "rule e from a d;rule e from b d;rule e from c d;");
            Due.are("d alone, not a b c", new int[] {x.barred(15, 4, 0), x.barred(15, 4, 1)}, 1, 8);
            Due.are("e counts for nothing", new int[] {x.barred(31, 4, 0), x.barred(31, 4, 1), x.barred(16, 4, 0), x.barred(16, 4, 1)}, 1, 8, 0, 0);
            BlissMarket y = Due.told(Town.facts(12, 0, 1) + Town.many(11, "rule l from #;"));
            Due.are("each of eleven", new int[] {y.barred(4095, 11, 0), y.barred(4095, 11, 1), y.barred(1024, 11, 1)}, 11, 2047, 1024);
            BlissMarket far = Due.told(Town.facts(4, 0, 1) + "rule d from c;rule c from b;rule b from a;");
            Due.are("all in a chain that are there", new int[] {far.barred(7, 3, 0), far.barred(7, 3, 1), far.barred(1, 3, 1)}, 3, 7, 1);
        });
        s.hold(27, "; of like ones the least bits.", () -> {
            BlissMarket x = Due.told(Town.facts(5, 0, 1) + "rule e from d c;rule e from b a;");
            Due.are("a and c", new int[] {x.barred(15, 4, 0), x.barred(15, 4, 1)}, 2, 5);
            Due.are("c", new int[] {x.barred(12, 4, 0), x.barred(12, 4, 1)}, 1, 4);
            BlissMarket fewest = Due.told(Town.facts(5, 0, 1) + "rule e from a d;rule e from b d;");
            Due.are("one of more bits is fewer than two", new int[] {fewest.barred(15, 4, 0), fewest.barred(15, 4, 1)}, 1, 8);
        });
        s.hold(27, "BARRED of some FACTS, for one: how many (what 0), bits (1); 0 and 0 when it does not follow", () -> {
            BlissMarket x = Due.told(Town.facts(3, 0, 1) + "rule c from a b;");
            Due.are("it follows", new int[] {x.barred(3, 2, 0), x.barred(3, 2, 1)}, 1, 1);
            Due.are("it does not", new int[] {x.barred(1, 2, 0), x.barred(1, 2, 1), x.barred(0, 2, 0), x.barred(0, 2, 1), x.barred(7, 0, 0), x.barred(7, 0, 1)},
                0, 0, 0, 0, 0, 0);
        });
        s.hold(27, ". NONE when there are none such, or for others.", () -> {
            BlissMarket x = Due.told(Town.facts(3, 0, 1) + "rule c from a b;");
            Due.are("FACTS", new int[] {x.barred(8, 2, 0), x.barred(-1, 2, 0), x.barred(MOST, 2, 0), x.barred(LEAST, 2, 1)}, NONE, NONE, NONE, NONE);
            Due.are("FACT", new int[] {x.barred(3, 3, 0), x.barred(3, -1, 0), x.barred(3, 32, 0), x.barred(3, MOST, 1), x.barred(3, LEAST, 0)},
                NONE, NONE, NONE, NONE, NONE);
            Due.are("others", new int[] {x.barred(3, 2, 2), x.barred(3, 2, -1), x.barred(3, 2, MOST), x.barred(3, 2, LEAST)}, NONE, NONE, NONE, NONE);
            Due.is("of none", new BlissMarket().barred(0, 0, 0), NONE);
        });
    }

    // ------------------------------------------------------------ promise 28

    private static int[] cheapest(BlissMarket x, int person, int fact, int day) {
        return new int[] {x.cheapest(person, fact, day, 0), x.cheapest(person, fact, day, 1)};
    }

    private static void cheapest(Sentences s) {
        s.hold(28, "CHEAPEST: sets of COMMON FACTS as of a DAY, without it, for which a PERSON who knows nothing else must have licences so that it does not follow", () -> {
            BlissMarket x = Due.told("fact a day 0 worth 5;fact b day 1 worth 6;fact c day 999 worth 7;fact d day 0 worth 9;rule d from a;rule d from b;rule d from c;"
                + P + "price worth;");
            Due.are("as of DAY 0", cheapest(x, 0, 3, 0), 5, 1);
            Due.are("as of DAY 1", cheapest(x, 0, 3, 1), 11, 3);
            Due.are("as of DAY 998", cheapest(x, 0, 3, 998), 11, 3);
            Due.are("as of DAY 999", cheapest(x, 0, 3, 999), 18, 7);
            x.word(0, 2);
            Due.are("who knows nothing else", cheapest(x, 0, 3, 0), 5, 1);
            Due.are("nothing gives it", cheapest(x, 0, 0, 999), 0, 0);
            BlissMarket later = Due.told("fact a day 5 worth 5;fact b day 0 worth 6;rule b from a;" + P + "price worth;");
            Due.are("not COMMON yet", cheapest(later, 0, 1, 4), 0, 0);
            Due.are("COMMON", cheapest(later, 0, 1, 5), 5, 1);
            later.days(9);
            Due.are("as of a DAY that was", cheapest(later, 0, 1, 4), 0, 0);
        });
        s.hold(28, ", by the least price of all together (each as if bought now for 7 DAYS, one by one, as all is now, but licences he holds are free)", () -> {
            String town = "fact a day 0 worth 30;fact b day 0 worth 9;fact c day 0 worth 20;fact d day 9 worth 1;rule d from a b;rule d from a c;";
            BlissMarket x = Due.told(town + P + "price worth;");
            Due.are("b and c are less than a", cheapest(x, 0, 3, 0), 29, 6);
            BlissMarket days = Due.told(town + P + "price days;");
            Due.are("for 7 DAYS", cheapest(days, 0, 3, 0), 7, 1);
            BlissMarket now = Due.told("stock 3;fact a day 0 worth 1;fact b day 0 worth 1;fact c day 0 worth 1;rule c from a;rule c from b;" + P
                + "price 10+holds*5+left+knows;");
            Due.are("each as all is now", cheapest(now, 0, 2, 0), 32, 3);
            BlissMarket dear = Due.told(Town.facts(12, 0, 1) + Town.many(11, "rule l from #;") + P + "price 9999;");
            Due.are("all together above 999, and in no purse", cheapest(dear, 0, 11, 0), 11 * 999, 2047);
            BlissMarket none = Due.told("stock 0;" + town + P + "price worth;");
            Due.are("none is left", cheapest(none, 0, 3, 0), 29, 6);
            BlissMarket free = Due.told(town + P + Q + "licence p a till 1;licence q b till 9;licence q c till 9;price worth;");
            Due.are("p holds a", cheapest(free, 0, 3, 999), 0, 1);
            Due.are("q holds b and c", cheapest(free, 1, 3, 999), 0, 6);
            free.days(1);
            Due.are("on its last DAY", cheapest(free, 0, 3, 999), 0, 1);
            free.days(1);
            Due.are("over", cheapest(free, 0, 3, 999), 29, 6);
            BlissMarket street = Due.told(town + P + "person t street 9 purse 0;price worth+street*3-street*worth/10;");
            Due.are("of the PERSON's own street", cheapest(street, 1, 3, 0), 30, 1);
        });
        s.hold(28, "; of like ones the least bits.", () -> {
            BlissMarket x = Due.told("fact a day 0 worth 6;fact b day 0 worth 6;fact c day 0 worth 12;fact d day 0 worth 1;rule d from a c;rule d from b c;" + P + "price worth;");
            Due.are("a and b, not c", cheapest(x, 0, 3, 0), 12, 3);
            BlissMarket y = Due.told("fact a day 0 worth 12;fact b day 0 worth 6;fact c day 0 worth 6;fact d day 0 worth 1;rule d from a c;rule d from a b;" + P + "price worth;");
            Due.are("a, not b and c", cheapest(y, 0, 3, 0), 12, 1);
            BlissMarket free = Due.told(Town.facts(4, 0, 1) + "rule d from c b;" + P);
            Due.are("for nothing b alone", cheapest(free, 0, 3, 0), 0, 2);
        });
        s.hold(28, "CHEAPEST, for a PERSON, a FACT, a DAY (0 .. 999): price (what 0), licences as bits of FACTS (1)", () -> {
            BlissMarket x = Due.told(Town.facts(12, 0, 1) + "rule a from l;rule l from a;" + Town.people(8, 0, 0) + "price worth;");
            Due.are("DAY 0", cheapest(x, 0, 0, 0), 1, 2048);
            Due.are("DAY 999, the last ones", cheapest(x, 7, 11, 999), 1, 1);
        });
        s.hold(28, ". NONE when there are none such, or for others.", () -> {
            BlissMarket x = Due.told(Town.facts(2, 0, 1) + "rule b from a;" + P);
            Due.are("PERSON, FACT", new int[] {x.cheapest(1, 1, 0, 0), x.cheapest(0, 2, 0, 0), x.cheapest(1, 1, 0, 1), x.cheapest(0, 2, 0, 1)},
                NONE, NONE, NONE, NONE);
            for (int odd : ODD) {
                Due.are("odd", new int[] {x.cheapest(odd, 1, 0, 0), x.cheapest(0, odd, 0, 0), x.cheapest(0, 1, 0, odd)}, NONE, NONE, NONE);
            }
            Due.are("DAY", new int[] {x.cheapest(0, 1, 1000, 0), x.cheapest(0, 1, -1, 0), x.cheapest(0, 1, MOST, 0), x.cheapest(0, 1, LEAST, 1)},
                NONE, NONE, NONE, NONE);
            Due.is("what", x.cheapest(0, 1, 0, 2), NONE);
        });
    }

    // ------------------------------------------------------------ promises 29 and 30

    private static void seeds(Sentences s) {
        s.hold(29, "SEEDED: the fewest PEOPLE (3 at most) who must know something now, so that all know it by a DAY AHEAD", () -> {
            for (int people = 0; people <= 5; people++) {
                Due.is(people + " who never meet", Due.told(Town.people(people, 0, 0)).seeded(40, NONE), people > 3 ? NONE : people);
            }
            BlissMarket x = Due.told(Town.people(4, 0, 0) + "meets s p on 5;");
            Due.are("by DAY 4", seeded(x, 4), NONE);
            Due.are("by DAY 5: q r s", seeded(x, 5), 3, 1, 2, 3);
            BlissMarket fewer = Due.told(Town.people(4, 0, 0) + "meets p q on 1;meets p r on 2;meets p s on 3;");
            Due.are("p, q, r and s", seeded(fewer, 0), NONE);
            Due.are("p, r and s", seeded(fewer, 1), 3, 0, 2, 3);
            Due.are("p and s", seeded(fewer, 2), 2, 0, 3);
            Due.are("p", seeded(fewer, 3), 1, 0);
            BlissMarket eight = Due.told(Town.people(8, 0, 0) + "meets w v on 1;meets v u on 1;meets u t on 1;meets t s on 1;meets s r on 1;meets r q on 1;meets q p on 1;");
            Due.are("in the row of the MEETINGS of one DAY", seeded(eight, 1), 1, 7);
            String each = Town.many(6, "meets p # on 1;", 'q');
            Due.are("the first of eight", seeded(Due.told(Town.people(8, 0, 0) + each + "meets p w on 1;"), 1), 1, 0);
            Due.are("the first and the last of eight", seeded(Due.told(Town.people(8, 0, 0) + each), 1), 2, 0, 7);
            Due.are("none less than three of eight", seeded(Due.told(Town.people(8, 0, 0) + each.replace("meets p v on 1;", "")), 1), 3, 0, 6, 7);
            Due.are("none less than four of eight", seeded(Due.told(Town.people(8, 0, 0) + each.replace("meets p v on 1;", "").replace("meets p u on 1;", "")), 1), NONE);
            Due.are("by the last of 16 MEETINGS", seeded(Due.told(P + Q + Town.many(15, "meets p q on 2;") + "meets q p on 1;"), 1), 1, 1);
            BlissMarket back = Due.told(Town.people(4, 0, 0) + "meets q p on 1;meets r q on 1;meets s r on 1;");
            Due.are("not against it: s tells r on DAY 1, r tells q on DAY 8", seeded(back, 8), 2, 0, 3);
            Due.are("three of these DAYS", seeded(back, 15), 1, 3);
        });
        s.hold(29, ", if MEETINGS alone tell it, and all who know it tell it there (those of today are over)", () -> {
            String town = "fact a day 0 worth 1;fact b day 1 worth 1;person p street 0 purse 0;person q street 1 purse 0;meets p q on 0;";
            BlissMarket x = Due.told(town + "licence q a till 99;licence q b till 99;tells not all;");
            Due.are("today", seeded(x, 0), 2, 0, 1);
            Due.are("by DAY 6", seeded(x, 6), 2, 0, 1);
            Due.are("by DAY 7, whatever tells says", seeded(x, 7), 1, 0);
            x.days(7);
            Due.are("over again", seeded(x, 6), 2, 0, 1);
            x.days(6);
            Due.are("tomorrow", seeded(x, 1), 1, 0);
            BlissMarket all = Due.told(town);
            all.days(3);
            Due.are("what they know does not matter", seeded(all, 3), 2, 0, 1);
        });
        s.hold(29, "; of like ones the first by PEOPLE.", () -> {
            BlissMarket x = Due.told(P + Q + "meets p q on 1;meets q p on 1;");
            Due.are("p", seeded(x, 1), 1, 0);
            BlissMarket y = Due.told(Town.people(4, 0, 0) + "meets p q on 1;meets q p on 1;meets r s on 1;meets s r on 1;");
            Due.are("p and r", seeded(y, 1), 2, 0, 2);
            BlissMarket z = Due.told(Town.people(4, 0, 0) + "meets s r on 1;meets q p on 1;meets q s on 1;meets s q on 1;");
            Due.are("p and s, ahead of q and r", seeded(z, 1), 2, 0, 3);
            BlissMarket last = Due.told(P + Q + "meets q p on 1;");
            Due.are("q, who is the only one", seeded(last, 1), 1, 1);
        });
    }

    private static void seeded(Sentences s) {
        s.hold(29, "SEEDED, by n DAYS AHEAD (0 .. 40): how many (k NONE; 0 without PEOPLE), the k-th PERSON", () -> {
            BlissMarket x = Due.told(Town.people(3, 0, 0));
            Due.are("n", new int[] {x.seeded(0, NONE), x.seeded(40, NONE)}, 3, 3);
            Due.are("k", new int[] {x.seeded(0, 0), x.seeded(0, 1), x.seeded(0, 2)}, 0, 1, 2);
            BlissMarket nobody = Due.told(A);
            Due.are("without PEOPLE", new int[] {nobody.seeded(0, NONE), nobody.seeded(40, NONE)}, 0, 0);
        });
        s.hold(29, ". NONE when 3 are not enough, n can't be, or for others.", () -> {
            BlissMarket x = Due.told(Town.people(4, 0, 0));
            Due.are("3 are not enough", new int[] {x.seeded(40, NONE), x.seeded(40, 0)}, NONE, NONE);
            BlissMarket y = Due.told(Town.people(3, 0, 0));
            Due.are("n", new int[] {y.seeded(41, NONE), y.seeded(-1, NONE), y.seeded(MOST, NONE), y.seeded(LEAST, 0)}, NONE, NONE, NONE, NONE);
            Due.are("k", new int[] {y.seeded(0, 3), y.seeded(0, -2), y.seeded(0, MOST), y.seeded(0, LEAST)}, NONE, NONE, NONE, NONE);
            BlissMarket nobody = new BlissMarket();
            Due.are("without PEOPLE", new int[] {nobody.seeded(41, NONE), nobody.seeded(-1, NONE), nobody.seeded(0, 0), nobody.seeded(0, -2)},
                NONE, NONE, NONE, NONE);
        });
    }

    private static int[] face(BlissMarket x, int n) {
        return new int[] {x.face(n, 0), x.face(n, 1), x.face(n, 2)};
    }

    private static void face(Sentences s) {
        s.hold(30, "BY HIS FACE: sets of FACTS that one can know, by his BLISS now: sets that hold all that follows from them, and by which his BLISS would be n.", () -> {
            BlissMarket x = Due.told("fact a day 0 worth 5;fact b day 0 worth 8;fact c day 3 worth 20;rule b from a;" + P);
            Due.are("0: a b, with c or not", face(x, 0), 2, 3, 7);
            Due.are("5: b, with c or not", face(x, 5), 2, 2, 6);
            Due.are("8: never a without b", face(x, 8), 0, 0, 0);
            Due.are("13: nothing, or c", face(x, 13), 2, 0, 4);
            Due.are("20: c is not COMMON yet", face(x, 20), 0, 0, 0);
            x.days(3);
            Due.are("0: all of them", face(x, 0), 1, 7, 7);
            Due.are("20: not c", face(x, 20), 1, 3, 3);
            Due.are("33: nothing", face(x, 33), 1, 0, 0);
        });
        s.hold(30, "BY HIS FACE: how many sets (what 0), FACTS in all of them, as bits (1; 0 without), in some (2)", () -> {
            BlissMarket x = Due.told(Town.facts(12, 0, 0));
            Due.are("4096 sets", face(x, 0), 4096, 0, 4095);
            BlissMarket y = Due.told(Town.facts(12, 0, 99));
            Due.are("all", face(y, 0), 1, 4095, 4095);
            Due.are("nothing", face(y, 12 * 99), 1, 0, 0);
            Due.are("all but one", face(y, 99), 12, 0, 4095);
            Due.are("without", face(y, 98), 0, 0, 0);
            Due.are("no FACTS", face(new BlissMarket(), 0), 1, 0, 0);
            Due.are("no FACTS, n 1", face(new BlissMarket(), 1), 0, 0, 0);
        });
        s.hold(30, ". NONE when n is below 0, or for others.", () -> {
            BlissMarket x = Due.told(A);
            Due.are("n", new int[] {x.face(-1, 0), x.face(LEAST, 1), x.face(-5, 2)}, NONE, NONE, NONE);
            Due.are("others", new int[] {x.face(0, 3), x.face(0, -1), x.face(0, MOST), x.face(0, LEAST)}, NONE, NONE, NONE, NONE);
            Due.are("no such BLISS", face(x, MOST), 0, 0, 0);
        });
    }

    // ------------------------------------------------------------ promise 31

    private static void restByItsWords(Sentences s) {
        s.hold(31, "REST: round by round PEOPLE, by numbers, each buy one licence for 7 DAYS", () -> {
            BlissMarket x = Due.told("stock 4;" + Town.facts(2, 0, 50) + "person p street 1 purse 99;person q street 2 purse 99;price left*(2-street);");
            Due.is("on", Town.on(x, 0, 0, 99, 0, 0, 0, 99, 0, 0), true);
            Due.are("p for 4, q for 0, p for 2, q for 0", rest(x), 3, 4, 6, 0);
            BlissMarket days = Due.told("fact a day 0 worth 50;person p street 0 purse 99;price days;");
            Town.on(days, 0, 0, 99, 0);
            Due.are("for 7 DAYS", rest(days), 2, 1, 7, 19);
            BlissMarket late = Due.told("fact a day 0 worth 50;person p street 0 purse 99;price 3;");
            Town.on(late, 993, 0, 99, 0);
            Due.are("till DAY 999", rest(late), 2, 1, 3, 19);
            Town.on(late, 994, 0, 99, 0);
            Due.are("till would be above 999", rest(late), 1, 0, 0, 20);
            Town.on(late, 999, 0, 99, 0);
            Due.are("on the last DAY", rest(late), 1, 0, 0, 20);
            BlissMarket last = Due.told("stock 1;fact a day 0 worth 50;person p street 5 purse 99;person q street 2 purse 99;price street;");
            Town.on(last, 0, 0, 99, 0, 0, 99, 0);
            Due.are("p, the first, has the only one", rest(last), 2, 1, 5, 0);
        });
        s.hold(31, ", for a COMMON FACT that they do not know and hold no VALID licence for (as all is then; purses and stock as by that)", () -> {
            BlissMarket x = Due.told("fact a day 0 worth 50;fact b day 0 worth 50;fact c day 0 worth 50;fact d day 6 worth 50;fact e day 5 worth 50;person p street 0 purse 99;price 1;");
            Town.on(x, 5, 1, 99, 0, 6, 5, 0, 0);
            Due.are("b's licence is till today, c's till yesterday, d is not COMMON, a is known", new int[] {x.person(0, 2), x.person(0, 3), x.has(7)}, 1, 2, 23);
            Due.are("c and e", rest(x), 3, 2, 2, 17);
            BlissMarket then = Due.told("stock 9;" + Town.facts(3, 0, 90) + "person p street 0 purse 99;price 10+10*holds+left;");
            Town.on(then, 0, 0, 99, 0, 0, 0);
            Due.are("19, 28, 37, of a purse of 99", rest(then), 4, 3, 84, 6);
            Town.on(then, 0, 0, 84, 0, 0, 0);
            Due.are("of a purse of 84", rest(then), 4, 3, 84, 6);
            Town.on(then, 0, 0, 83, 0, 0, 0);
            Due.are("of a purse of 83", rest(then), 3, 2, 47, 7);
            BlissMarket stock = Due.told("stock 2;" + Town.facts(3, 0, 90) + "person p street 0 purse 99;price 1;");
            Town.on(stock, 0, 0, 99, 0, 0, 0);
            Due.are("none is left then", rest(stock), 3, 2, 2, 0);
            BlissMarket none = Due.told("stock 0;" + A + P);
            Town.on(none, 0, 0, 0, 0);
            Due.are("none is left", rest(none), 1, 0, 0, 0);
        });
        s.hold(31, ": of those whose price the purse has, the one whose worth less its price is greatest, if that is above 0 (of like ones the first)", () -> {
            String town = "fact a day 0 worth 20;fact b day 0 worth 40;";
            BlissMarket purse = Due.told(town + "person p street 0 purse 0;price worth/2;");
            int[][] due = {{1, 0, 0, 20}, {2, 1, 10, 19}, {2, 1, 10, 19}, {2, 1, 20, 19}, {2, 1, 20, 19}, {3, 2, 30, 18}};
            int[] coins = {9, 10, 19, 20, 29, 30};
            for (int k = 0; k < coins.length; k++) {
                Town.on(purse, 0, 0, coins[k], 0, 0);
                Due.are("of a purse of " + coins[k], rest(purse), due[k]);
            }
            for (int price = 18; price <= 21; price++) {
                BlissMarket gain = Due.told("fact a day 0 worth 20;person p street 0 purse 50;price " + price + ";");
                Town.on(gain, 0, 0, 50, 0);
                Due.are("worth 20, for " + price, rest(gain), price < 20 ? 2 : 1, price < 20 ? 1 : 0, price < 20 ? price : 0, price < 20 ? 19 : 20);
            }
            BlissMarket free = Due.told("fact a day 0 worth 0;person p street 0 purse 50;");
            Town.on(free, 0, 0, 50, 0);
            Due.are("worth 0, for 0", rest(free), 1, 0, 0, 20);
            BlissMarket like = Due.told(town + "person p street 0 purse 0;price worth-5;");
            Town.on(like, 0, 0, 35, 0, 0);
            Due.are("the first of two with a gain of 5", rest(like), 2, 1, 15, 19);
            BlissMarket greatest = Due.told(town + "person p street 0 purse 0;price worth*worth/100;");
            Town.on(greatest, 0, 0, 16, 0, 0);
            Due.are("b, for 16", rest(greatest), 2, 1, 16, 19);
        });
        s.hold(31, "; till a round in which nobody buys: how many licences they bought, for how much.", () -> {
            BlissMarket x = Due.told("stock 99;" + Town.facts(12, 0, 99) + Town.people(8, 0, 999) + "price 83;");
            int[] image = new int[1 + 8 * 14];
            for (int p = 0; p < 8; p++) {
                image[2 + 14 * p] = 999;
            }
            Due.is("on", Town.on(x, image), true);
            Due.are("all of them", rest(x), 13, 96, 96 * 83, 3);
            Due.are("nothing is bought by asking", new int[] {x.has(4), x.has(5), x.has(8), x.has(11)}, 0, 99, 8 * 999, 0);
        });
    }

    private static void rest(Sentences s) {
        s.hold(31, "REST: rounds (what 0, the last one, too), licences (1), coins (2), left in stock then (3)", () -> {
            Due.are("nobody", rest(new BlissMarket()), 1, 0, 0, 20);
            Due.are("who know all", rest(Due.told(Town.facts(3, 0, 9) + Town.people(3, 0, 9))), 1, 0, 0, 20);
            BlissMarket x = Due.told("stock 5;fact a day 0 worth 9;fact b day 9 worth 9;person p street 0 purse 9;person q street 0 purse 9;licence q b till 9;price 4;");
            Town.on(x, 0, 0, 9, 0, 0, 0, 3, 0, 10);
            Due.are("q can't pay", rest(x), 2, 1, 4, 3);
        });
        s.hold(31, ". NONE for others.", () -> {
            BlissMarket x = new BlissMarket();
            Due.are("rest", new int[] {x.rest(4), x.rest(-1), x.rest(MOST), x.rest(LEAST)}, NONE, NONE, NONE, NONE);
        });
    }

    // ------------------------------------------------------------ promises 32 and 33

    private static byte[] read(BlissMarket x) {
        byte[] bytes = new byte[Math.max(0, x.image())];
        for (int k = 0; k < bytes.length; k++) {
            bytes[k] = (byte) x.octet(k);
        }
        return bytes;
    }

    private static void written(BlissMarket x, int... numbers) {
        byte[] due = Town.image(numbers);
        Due.is("image()", x.image(), due.length);
        for (int k = 0; k < due.length; k++) {
            Due.is("octet(" + k + ")", x.octet(k), due[k] & 255);
        }
    }

    private static void imageByItsWords(Sentences s) {
        s.hold(32, "AN IMAGE: DAY (two bytes, the higher first)", () -> {
            BlissMarket x = new BlissMarket();
            written(x, 0);
            Town.goTo(x, 255);
            written(x, 255);
            x.days(1);
            written(x, 256);
            Due.are("the higher first", new int[] {x.octet(0), x.octet(1)}, 1, 0);
            Town.goTo(x, 999);
            written(x, 999);
            Due.are("999", new int[] {x.octet(0), x.octet(1)}, 3, 231);
        });
        s.hold(32, "; for each PERSON what he knows (two bytes, bits), his purse (two bytes)", () -> {
            BlissMarket x = Due.told("person p street 9 purse 0;person q street 0 purse 255;person r street 0 purse 256;person s street 0 purse 999;");
            written(x, 0, 0, 0, 0, 255, 0, 256, 0, 999);
            BlissMarket all = Due.told(Town.facts(12, 0, 1) + "person p street 9 purse 5;");
            written(all, 0, 4095, 5, 0, 0, 0, 0, 0, 0, 0, 0, 0, 0, 0, 0);
        });
        s.hold(32, ", for each FACT the DAY till which his VALID licence is and 1 (two bytes; 0 without)", () -> {
            BlissMarket x = Due.told(Town.facts(4, 900, 1) + P + Q + "licence p a till 0;licence p b till 1;licence p c till 255;licence q d till 999;");
            written(x, 0, 0, 0, 1, 2, 256, 0, 0, 0, 0, 0, 0, 1000);
            x.days(1);
            written(x, 1, 0, 0, 0, 2, 256, 0, 0, 0, 0, 0, 0, 1000);
            x.back(0, 2);
            x.days(1);
            written(x, 2, 0, 0, 0, 0, 0, 0, 0, 0, 0, 0, 0, 1000);
        });
        s.hold(32, "; last a byte: all ahead from 101 on, c = (5 c + it) mod 251.", () -> {
            BlissMarket x = new BlissMarket();
            // 101, 505 mod 251 = 3, 15
            Due.are("of two zeros", new int[] {x.image(), x.octet(2)}, 3, 15);
            x.days(1);
            Due.are("of 0 and 1", new int[] {x.image(), x.octet(2)}, 3, 16);
            Town.goTo(x, 235);
            Due.are("of 0 and 235", new int[] {x.image(), x.octet(2)}, 3, 250);
            x.days(1);
            Due.are("of 0 and 236", new int[] {x.image(), x.octet(2)}, 3, 0);
            x.days(20);
            // 101, 505 + 1 mod 251 = 4, 20
            Due.are("of 1 and 0", new int[] {x.image(), x.octet(2)}, 3, 20);
        });
    }

    private static void image(Sentences s) {
        s.hold(32, "AN IMAGE is written: how many bytes.", () -> {
            for (int people : new int[] {0, 1, 8}) {
                for (int facts : new int[] {0, 1, 12}) {
                    BlissMarket x = Due.told(Town.facts(facts, 0, 0) + Town.people(people, 0, 0));
                    Due.is(people + " PEOPLE, " + facts + " FACTS", x.image(), 3 + people * (4 + 2 * facts));
                }
            }
            Due.is("the most", Due.told(Town.facts(12, 0, 0) + Town.people(8, 0, 0)).image(), 227);
        });
        s.hold(33, "Byte k of the latest image()", () -> {
            BlissMarket x = Due.told(A + P);
            x.image();
            x.days(5);
            Due.is("the latest, not as it is now", x.octet(1), 0);
            Due.is("image()", x.image(), 9);
            Due.is("the latest", x.octet(1), 5);
            x.undo();
            x.capital();
            Due.are("also of another CAPITAL", new int[] {x.octet(1), x.octet(8) >= 0 ? 1 : 0, x.octet(9)}, 5, 1, NONE);
            x.image();
            Due.are("a shorter one", new int[] {x.octet(2), x.octet(3)}, 15, NONE);
            BlissMarket high = Due.told("person p street 0 purse 511;");
            high.image();
            Due.are("a byte above 127", new int[] {high.octet(4), high.octet(5)}, 1, 255);
        });
        s.hold(33, "; NONE when there is none such.", () -> {
            BlissMarket x = new BlissMarket();
            Due.are("no image yet", new int[] {x.octet(0), x.octet(-1)}, NONE, NONE);
            x.image();
            Due.are("three bytes", new int[] {x.octet(2), x.octet(3), x.octet(-1), x.octet(MOST), x.octet(LEAST)}, 15, NONE, NONE, NONE, NONE);
            BlissMarket most = Due.told(Town.facts(12, 0, 0) + Town.people(8, 0, 0));
            most.image();
            Due.are("of the longest one", new int[] {most.octet(226) >= 0 ? 1 : 0, most.octet(227)}, 1, NONE);
        });
    }

    // ------------------------------------------------------------ promise 34

    private static final String TWO = "stock 2;fact a day 2 worth 9;fact b day 0 worth 9;fact c day 900 worth 5;rule c from b;"
        + "person p street 0 purse 300;person q street 0 purse 4;licence p b till 3;meets p q on 0;";

    private static void on(Sentences s) {
        s.hold(34, "The tape (it goes, refused or not) is AN IMAGE of this CAPITAL: true", () -> {
            BlissMarket x = Due.told(TWO);
            x.days(4);
            byte[] bytes = read(x);
            BlissMarket y = Due.told(TWO);
            Due.feed(y, bytes);
            Due.is("on()", y.on(), true);
            Due.is("it goes", y.end(1), false);
            Due.is("status(5)", y.status(5), 0);
            Due.is("the same image", java.util.Arrays.equals(read(y), bytes), true);
            y.end(0);
            Due.feed(y, new byte[] {1, 2, 3});
            Due.is("refused", y.on(), false);
            Due.is("it goes when refused, too", y.end(1), false);
            BlissMarket nobody = new BlissMarket();
            Due.is("of an empty CAPITAL", Town.on(nobody, 5), true);
            Due.is("DAY", nobody.has(6), 5);
            int[] most = new int[1 + 8 * 14];
            Due.is("the longest one", Town.on(Due.told(Town.facts(12, 0, 0) + Town.people(8, 0, 0)), most), true);
        });
        s.hold(34, ", all is as it tells (no DAY begins by that)", () -> {
            BlissMarket x = Due.told(TWO);
            x.seed(55);
            Due.is("on()", Town.on(x, 7, 0, 999, 0, 8, 0, 4, 0, 0, 0, 1000), true);
            Due.are("DAY, what they know, purses", new int[] {x.has(6), x.person(0, 2), x.person(1, 2), x.person(0, 1), x.person(1, 1)}, 7, 0, 4, 999, 0);
            Due.are("licences", new int[] {x.licence(0, 0), x.licence(0, 1), x.licence(0, 2), x.licence(1, 0), x.licence(1, 1), x.licence(1, 2)},
                NONE, 7, NONE, NONE, NONE, 999);
            Due.are("VALID, left, COMMON, the seed", new int[] {x.has(4), x.has(5), x.has(7), x.has(12)}, 2, 0, 3, 55);
            x.days(1);
            Due.are("the next one begins", new int[] {x.has(6), x.person(0, 2), x.person(1, 2)}, 8, 7, 7);
        });
        s.hold(34, ", nothing is KEPT", () -> {
            BlissMarket x = Due.told("fact a day 0 worth 1;fact b day 9 worth 1;rule b from a;" + P + "licence p b till 9;");
            Due.is("one is", x.has(10), 1);
            Due.is("on()", Town.on(x, 0, 0, 0, 0, 10), true);
            Due.are("none is", new int[] {x.has(10), x.kept(0, 0), x.person(0, 5)}, 0, NONE, 0);
            x.days(1);
            Due.are("the next one", new int[] {x.has(10), x.kept(0, 0)}, 1, 1);
            x.when(0, 0);
            Due.is("on(), behind a look AHEAD", Town.on(x, 0, 0, 0, 0, 10), true);
            Due.is("none is", x.has(10), 0);
        });
        s.hold(34, " is AN IMAGE of this CAPITAL: true, all is as it tells", () -> {
            BlissMarket x = Due.told("stock 99;" + Town.facts(12, 0, 1) + Town.people(8, 0, 9) + Town.many(12, "licence w # till 99;") + Town.many(12, "licence p # till 99;"));
            x.bliss(7, 3);
            Due.feed(x, Due.bytes("stock 1;fact a day 9 worth 1;" + P));
            Due.is("capital()", x.capital(), 3);
            Due.is("on()", Town.on(x, 0, 0, 0, 1), true);
            Due.are("nothing of an older one", new int[] {x.has(4), x.has(5), x.has(8), x.person(0, 3), x.fact(0, 2)}, 1, 0, 0, 1, 0);
        });
        s.hold(34, ", no ACT can be undone", () -> {
            BlissMarket x = Due.told(A + P);
            x.days(1);
            x.days(1);
            Due.is("on()", Town.on(x, 5, 0, 0, 0), true);
            Due.are("ACTS", new int[] {x.has(11), x.undo() ? 1 : 0, x.has(6)}, 0, 0, 5);
            x.days(1);
            Due.are("one", new int[] {x.has(11), x.undo() ? 1 : 0, x.has(6), x.person(0, 2)}, 1, 1, 5, 0);
        });
    }

    private static BlissMarket before;

    /** It is refused, and all stays. */
    private static void not(String why, byte[] bytes) {
        BlissMarket x = before;
        String all = Town.all(x);
        int refused = x.status(5);
        Due.feed(x, bytes);
        Due.is(why, x.on(), false);
        Due.is("status(5)", x.status(5), refused + 1);
        Due.is("the tape goes", x.end(1), false);
        Town.same("all stays", Town.all(x), all);
    }

    private static void yes(String why, int... numbers) {
        Due.is(why, Town.on(Due.told(TWO), numbers), true);
    }

    private static void notOn(Sentences s) {
        Runnable anew = () -> {
            before = Due.told(TWO);
            before.buy(1, 0, 5);
            before.days(1);
        };
        s.hold(34, "; false, refused (5), all staying, if it is none such", () -> {
            anew.run();
            not("an empty tape", new byte[0]);
            not("one byte", new byte[] {101});
            byte[] fine = Town.image(7, 0, 999, 0, 8, 0, 4, 0, 0, 0, 1000);
            byte[] less = java.util.Arrays.copyOf(fine, fine.length - 1);
            Town.check(less);
            not("a byte less", less);
            byte[] more = java.util.Arrays.copyOf(fine, fine.length + 1);
            Town.check(more);
            not("a byte more", more);
            anew.run();
            not("of another CAPITAL", Town.image(7, 0, 999, 0, 8, 0));
            for (int k = 0; k < fine.length; k++) {
                byte[] other = fine.clone();
                other[k] ^= 1;
                BlissMarket x = Due.told(TWO);
                Due.feed(x, other);
                Due.is("another byte " + k, x.on(), false);
            }
            byte[] high = Town.image(0, 0, 0, 0, 0, 0, 0, 0, 0, 0, 0);
            for (int day = 0; (high[high.length - 1] & 255) > 4; day++) {
                high = Town.image(day, 0, 0, 0, 0, 0, 0, 0, 0, 0, 0);
            }
            high[high.length - 1] += 251;
            not("the last byte and 251", high);
            Due.is("ACTS stay", before.has(11), 2);
            Due.is("what can be undone", before.undo(), true);
            Due.is("DAY", before.has(6), 0);
        });
        s.hold(34, " (DAY 999,", () -> {
            anew.run();
            yes("DAY 0", 0, 0, 0, 0, 0, 0, 0, 0, 0, 0, 0);
            yes("DAY 999", 999, 0, 0, 0, 0, 0, 0, 0, 0, 0, 0);
            not("DAY 1000", Town.image(1000, 0, 0, 0, 0, 0, 0, 0, 0, 0, 0));
            not("DAY 65535", Town.image(65535, 0, 0, 0, 0, 0, 0, 0, 0, 0, 0));
        });
        s.hold(34, ", licences till 999", () -> {
            anew.run();
            yes("till 999", 0, 0, 0, 1000, 0, 0, 0, 0, 0, 0, 1000);
            not("till 1000", Town.image(0, 0, 0, 1001, 0, 0, 0, 0, 0, 0, 0));
            not("till 1000, the last one", Town.image(0, 0, 0, 0, 0, 0, 0, 0, 0, 0, 1001));
            not("till 65534", Town.image(0, 0, 0, 65535, 0, 0, 0, 0, 0, 0, 0));
        });
        s.hold(34, ", also till a DAY that is over by then", () -> {
            BlissMarket x = Due.told(TWO);
            Due.is("on()", Town.on(x, 5, 0, 0, 1, 5, 6, 0, 0, 5, 5, 7), true);
            Due.are("VALID ones", new int[] {x.has(4), x.person(0, 3), x.person(1, 3), x.licence(0, 1), x.licence(0, 2), x.licence(1, 2)}, 2, 4, 4, NONE, 5, 6);
            written(x, 5, 0, 0, 0, 0, 6, 0, 0, 0, 0, 7);
        });
        s.hold(34, ", purses 999 at most", () -> {
            anew.run();
            yes("999", 0, 0, 999, 0, 0, 0, 0, 999, 0, 0, 0);
            not("1000", Town.image(0, 0, 1000, 0, 0, 0, 0, 0, 0, 0, 0));
            not("1000, the last one", Town.image(0, 0, 0, 0, 0, 0, 0, 1000, 0, 0, 0));
            not("65535", Town.image(0, 0, 65535, 0, 0, 0, 0, 0, 0, 0, 0));
        });
        s.hold(34, ", FACTS that there are", () -> {
            anew.run();
            yes("all three", 0, 7, 0, 0, 0, 0, 7, 0, 0, 0, 0);
            not("the fourth", Town.image(0, 8, 0, 0, 0, 0, 0, 0, 0, 0, 0));
            not("the fourth, of the last one", Town.image(0, 0, 0, 0, 0, 0, 15, 0, 0, 0, 0));
            not("the 16th", Town.image(0, 32768, 0, 0, 0, 0, 0, 0, 0, 0, 0));
            int[] most = new int[15];
            most[1] = 4095;
            Due.is("twelve", Town.on(Due.told(Town.facts(12, 0, 0) + P), most), true);
            most[1] = 4096;
            Due.is("the 13th", Town.on(Due.told(Town.facts(12, 0, 0) + P), most), false);
            Due.is("of none", Town.on(Due.told(P), 0, 1, 0), false);
        });
        s.hold(34, ", no more VALID licences than stock).", () -> {
            anew.run();
            yes("two", 5, 0, 0, 6, 0, 0, 0, 0, 0, 0, 6);
            yes("two, and four that are over", 5, 0, 0, 6, 5, 5, 0, 0, 5, 5, 6);
            not("three", Town.image(5, 0, 0, 6, 0, 6, 0, 0, 0, 0, 6));
            not("six", Town.image(5, 0, 0, 6, 6, 6, 0, 0, 6, 6, 6));
            Due.is("of a stock of 0", Town.on(Due.told("stock 0;" + A + P), 5, 0, 0, 6), false);
            Due.is("one that is over, of a stock of 0", Town.on(Due.told("stock 0;" + A + P), 5, 0, 0, 5), true);
        });
    }

    // ------------------------------------------------------------ promise 35

    private static void status(Sentences s) {
        s.hold(35, "How many were refused: 0 feed(), end(); 1 capital(); 2 buy(), back(), word(); 3 days(), rumours(); 4 undo(); 5 seed(), on()", () -> {
            BlissMarket x = new BlissMarket();
            int[] due = new int[6];
            Runnable[] refused = {() -> x.end(1), () -> x.end(-1), () -> {
                x.feed(-1, 0, 0, 0, 0);
                x.capital();
            }, () -> x.buy(0, 0, 1), () -> x.back(0, 0), () -> x.word(0, 0), () -> x.days(0), () -> x.rumours(0), () -> x.undo(), () -> x.seed(-1), () -> x.on()};
            int[] kind = {0, 0, 1, 2, 2, 2, 3, 3, 4, 5, 5};
            for (int k = 0; k < kind.length; k++) {
                for (int time = 0; time < 2; time++) {
                    refused[k].run();
                    due[kind[k]]++;
                    Due.are("status", new int[] {x.status(0), x.status(1), x.status(2), x.status(3), x.status(4), x.status(5)}, due);
                }
            }
            for (int k = 0; k < 80; k++) {
                x.feed(0, 0, 0, 0, 0);
            }
            x.feed(0, 0, 0, 0, 0);
            Due.is("feed()", x.status(0), due[0] + 1);
            x.end(0);
            x.capital();
            x.days(1);
            x.rumours(1);
            x.undo();
            x.seed(0);
            Town.on(x, 3);
            x.has(99);
            x.price(0, 0, 0);
            x.seeded(99, 0);
            x.octet(-1);
            due[0]++;
            Due.are("nothing else counts", new int[] {x.status(0), x.status(1), x.status(2), x.status(3), x.status(4), x.status(5)}, due);
        });
        s.hold(35, ". NONE for others.", () -> {
            BlissMarket x = new BlissMarket();
            Due.are("status", new int[] {x.status(6), x.status(-1), x.status(MOST), x.status(LEAST)}, NONE, NONE, NONE, NONE);
        });
    }
}
