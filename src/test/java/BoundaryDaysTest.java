import java.io.IOException;

/**
 * Promises 6 to 20 and part II. of the Terms, sentence by sentence: a test of
 * its own for each one that names a boundary case.
 */
public final class BoundaryDaysTest {
    private static final int NONE = BlissMarket.NONE;
    private static final String A = Town.A;
    private static final String B = Town.B;
    private static final String P = Town.P;
    private static final String Q = Town.Q;
    private static final String R = "person r street 0 purse 0;";
    private static final int MOST = Integer.MAX_VALUE;
    private static final int LEAST = Integer.MIN_VALUE;
    /** What can be no PERSON, FACT, or the like where there are so many. */
    private static final int[] ODD = {-1, LEAST, MOST, 32, 64, 256};

    private BoundaryDaysTest() {
    }

    public static void main(String[] args) throws IOException {
        Sentences s = new Sentences();
        firstDay(s);
        aDayBegins(s);
        inferring(s);
        meetings(s);
        breachesAndBliss(s);
        acts(s);
        rumours(s);
        draws(s);
        has(s);
        letter(s);
        fact(s);
        rule(s);
        person(s);
        licenceAndPrice(s);
        buy(s);
        back(s);
        word(s);
        days(s);
        rumouredDays(s);
        undo(s);
        seed(s);
        kept(s);
        s.closePromises(6, 20);
        s.closeTerms("II. ", "III. AHEAD");
        s.close("BoundaryDaysTest");
    }

    private static int[] breach(BlissMarket x, int k) {
        return new int[] {x.kept(k, 0), x.kept(k, 1), x.kept(k, 2), x.kept(k, 3)};
    }

    /** What each of the PEOPLE knows. */
    private static int[] known(BlissMarket x) {
        int[] bits = new int[x.has(2)];
        for (int p = 0; p < bits.length; p++) {
            bits[p] = x.person(p, 2);
        }
        return bits;
    }

    /** DRAWS by the document's words, with numbers that can hold all of them. */
    private static final class Draws {
        private long x;

        Draws(long seed) {
            x = seed;
        }

        int of(int m) {
            x = Math.floorMod(1103515245L * x + 12345L, 1L << 31);
            return (int) (x / 64 % m);
        }
    }

    // ------------------------------------------------------------ part II. of the Terms

    private static void firstDay(Sentences s) {
        s.hold(6, "It is DAY 0 at first, nobody knows anything.", () -> {
            BlissMarket x = Due.told(Town.facts(12, 1, 9) + Town.people(8, 0, 0) + "rule a from b;");
            Due.is("DAY", x.has(6), 0);
            Due.are("known", known(x), 0, 0, 0, 0, 0, 0, 0, 0);
            Due.is("the first FACT", x.fact(0, 2), 0);
        });
        s.hold(11, "A licence is VALID, as long as the DAY is not above that till which it is", () -> {
            BlissMarket x = Due.told(Town.facts(3, 0, 9) + P + "licence p a till 0;licence p b till 1;licence p c till 2;");
            Due.are("DAY 0", new int[] {x.licence(0, 0), x.licence(0, 1), x.licence(0, 2), x.person(0, 3), x.person(0, 2)}, 0, 1, 2, 7, 0);
            x.days(1);
            Due.are("DAY 1", new int[] {x.licence(0, 0), x.licence(0, 1), x.licence(0, 2), x.person(0, 3), x.person(0, 2)}, NONE, 1, 2, 6, 1);
            x.days(1);
            Due.are("DAY 2", new int[] {x.licence(0, 0), x.licence(0, 1), x.licence(0, 2), x.person(0, 3), x.person(0, 2)}, NONE, NONE, 2, 4, 3);
            x.days(1);
            Due.are("DAY 3", new int[] {x.licence(0, 0), x.licence(0, 1), x.licence(0, 2), x.person(0, 3), x.person(0, 2)}, NONE, NONE, NONE, 0, 7);
            BlissMarket last = Due.told(A + P + "licence p a till 999;");
            Town.goTo(last, 999);
            Due.are("DAY 999", new int[] {last.licence(0, 0), last.person(0, 2)}, 999, 0);
        });
        s.hold(6, "; one not VALID any more is back in stock.", () -> {
            BlissMarket x = Due.told("stock 2;" + A + B + P + Q + "licence p a till 1;licence q a till 0;");
            Due.are("DAY 0", new int[] {x.has(4), x.has(5)}, 2, 0);
            x.days(1);
            Due.are("DAY 1", new int[] {x.has(4), x.has(5)}, 1, 1);
            x.days(1);
            Due.are("DAY 2", new int[] {x.has(4), x.has(5)}, 0, 2);
            BlissMarket y = Due.told("stock 1;fact a day 5 worth 1;" + P + Q + "licence p a till 0;");
            Due.is("none is left", y.buy(1, 0, 1), NONE);
            y.days(1);
            Due.is("it can be bought again", y.buy(1, 0, 1), 0);
        });
        s.hold(6, "A FACT is COMMON from its day on.", () -> {
            BlissMarket x = Due.told("fact a day 0 worth 1;fact b day 1 worth 1;fact c day 2 worth 1;fact d day 999 worth 1;" + P);
            int[] due = {1, 3, 7, 7};
            for (int day = 0; day < 4; day++) {
                Due.are("DAY " + day, new int[] {x.has(7), x.person(0, 2)}, due[day], due[day]);
                x.days(1);
            }
            Town.goTo(x, 998);
            Due.are("DAY 998", new int[] {x.has(7), x.person(0, 2)}, 7, 7);
            x.days(1);
            Due.are("DAY 999", new int[] {x.has(7), x.person(0, 2)}, 15, 15);
        });
    }

    private static void aDayBegins(Sentences s) {
        s.hold(4, "A DAY, at its beginning (DAY 0 has begun when the text is read)", () -> {
            BlissMarket x = Due.told(Town.facts(1, 0, 1) + "fact b day 9 worth 1;fact c day 1 worth 1;rule b from a;" + P + Q
                + "licence q a till 0;meets p q on 0;");
            Due.are("learned, INFERRED, told", known(x), 3, 2);
            Due.are("no DAY 1 yet", new int[] {x.has(6), x.has(7)}, 0, 1);
        });
        s.hold(16, ": each PERSON learns each COMMON FACT for which he has no VALID licence", () -> {
            BlissMarket x = Due.told(Town.facts(12, 1, 1) + Town.people(8, 0, 0) + "licence w l till 1;licence p a till 1;licence q a till 0;");
            Due.are("DAY 0", known(x), 0, 0, 0, 0, 0, 0, 0, 0);
            x.days(1);
            Due.are("DAY 1", known(x), 4094, 4095, 4095, 4095, 4095, 4095, 4095, 2047);
            x.days(1);
            Due.are("DAY 2", known(x), 4095, 4095, 4095, 4095, 4095, 4095, 4095, 4095);
        });
    }

    private static void inferring(Sentences s) {
        s.hold(16, "; then all INFER, PERSON by PERSON", () -> {
            BlissMarket x = Due.told("fact a day 1 worth 1;" + "fact b day 9 worth 1;fact c day 9 worth 1;rule b from a;rule c from a;" + P + Q + R
                + "licence p b till 5;licence p c till 5;licence q b till 5;licence q c till 5;licence r b till 5;");
            Due.is("BREACHES", x.days(1), 5);
            Due.are("all of them", known(x), 7, 7, 7);
            Due.are("p", breach(x, 0), 1, 0, 1, 0);
            Due.are("p", breach(x, 1), 1, 0, 2, 1);
            Due.are("q", breach(x, 2), 1, 1, 1, 0);
            Due.are("q", breach(x, 3), 1, 1, 2, 1);
            Due.are("r", breach(x, 4), 1, 2, 1, 0);
        });
        s.hold(16, ": RULE by RULE, as they are told, again and again, till none gives more", () -> {
            BlissMarket x = Due.told("fact a day 1 worth 1;fact b day 9 worth 1;fact c day 9 worth 1;fact d day 9 worth 1;fact e day 9 worth 1;"
                + "rule e from c;rule c from b;rule b from a;rule d from b;rule d from a;" + P
                + "licence p b till 5;licence p c till 5;licence p d till 5;licence p e till 5;");
            Due.is("BREACHES", x.days(1), 4);
            Due.are("b first", breach(x, 0), 1, 0, 1, 2);
            Due.are("then d, in the same row", breach(x, 1), 1, 0, 3, 3);
            Due.are("then c", breach(x, 2), 1, 0, 2, 1);
            Due.are("e last", breach(x, 3), 1, 0, 4, 0);
            BlissMarket chain = Due.told("fact a day 0 worth 1;" + Town.facts(12, 9, 1).substring("fact a day 9 worth 1;".length())
                + "rule l from k;rule k from j;rule j from i;rule i from h;rule h from g;rule g from f;rule f from e;rule e from d;rule d from c;"
                + "rule c from b;rule b from a;" + P + "licence p l till 9;");
            Due.are("eleven rows of RULES", known(chain), 4095);
            Due.are("the BREACH", breach(chain, 0), 0, 0, 11, 0);
        });
        s.hold(16, ": who knows all FACTS from which one follows learns that, licence or not.", () -> {
            BlissMarket x = Due.told(Town.facts(2, 1, 1) + "fact c day 2 worth 1;fact d day 9 worth 1;rule d from a b c;" + P + Q + "licence q d till 9;");
            x.days(1);
            Due.are("all but one", known(x), 3, 3);
            Due.is("BREACHES", x.days(1), 1);
            Due.are("all", known(x), 15, 15);
            Due.is("he holds it still", x.licence(1, 3), 9);
        });
    }

    private static void meetings(Sentences s) {
        s.hold(16, "Then MEETINGS of this day of the week (the DAY modulo 7)", () -> {
            BlissMarket x = Due.told(Town.facts(4, 900, 1) + P + Q + R + "meets p q on 0;meets p r on 6;");
            x.word(0, 0);
            x.days(5);
            Due.are("DAY 5", known(x), 1, 0, 0);
            x.days(1);
            Due.are("DAY 6", known(x), 1, 0, 1);
            x.word(0, 1);
            x.days(1);
            Due.are("DAY 7", known(x), 3, 3, 1);
            x.word(0, 2);
            x.days(5);
            Due.are("DAY 12", known(x), 7, 3, 1);
            x.days(1);
            Due.are("DAY 13", known(x), 7, 3, 7);
            x.days(1);
            Due.are("DAY 14", known(x), 7, 7, 7);
            BlissMarket first = Due.told(A + P + Q + "licence q a till 0;meets p q on 0;");
            Due.are("a licence on DAY 0", known(first), 1, 0);
            for (int day = 0; day < 7; day++) {
                BlissMarket late = Due.told("fact a day 999 worth 1;" + P + Q + "meets p q on " + day + ";");
                Town.goTo(late, 997);
                late.word(0, 0);
                late.days(1);
                Due.are("DAY 998 is 4 modulo 7, not " + day, known(late), 1, day == 4 ? 1 : 0);
            }
        });
        s.hold(16, ", as they are told: the first one", () -> {
            BlissMarket x = Due.told("fact a day 900 worth 1;" + P + Q + R + "meets p q on 1;meets q r on 1;");
            x.word(0, 0);
            x.days(1);
            Due.are("from p to r on one DAY", known(x), 1, 1, 1);
            BlissMarket y = Due.told("fact a day 900 worth 1;" + P + Q + R + "meets q r on 1;meets p q on 1;");
            y.word(0, 0);
            y.days(1);
            Due.are("r is told ahead of q", known(y), 1, 1, 0);
            y.days(7);
            Due.are("a week later", known(y), 1, 1, 1);
        });
        s.hold(16, ": the first one tells the second one all FACTS that he knows and the other one does not, has no VALID licence for", () -> {
            BlissMarket x = Due.told(Town.facts(12, 900, 1) + P + Q + "meets p q on 1;");
            for (int f = 0; f < 12; f++) {
                x.word(0, f);
            }
            x.days(1);
            Due.are("all of them", known(x), 4095, 4095);
            BlissMarket y = Due.told(Town.facts(3, 900, 1) + P + Q + "licence q a till 1;licence q b till 0;meets p q on 1;");
            y.word(0, 0);
            y.word(0, 1);
            y.word(1, 2);
            y.days(1);
            Due.are("not back, and not what he has a VALID licence for", known(y), 3, 6);
            Due.is("which is no BREACH", y.has(10), 0);
            BlissMarket hold = Due.told("fact a day 900 worth 1;" + P + Q + "meets p q on 1;");
            hold.word(0, 0);
            hold.buy(1, 0, 2);
            hold.days(1);
            Due.are("licence till DAY 1", known(hold), 1, 0);
            BlissMarket over = Due.told("fact a day 900 worth 1;" + P + Q + "meets p q on 1;");
            over.word(0, 0);
            over.buy(1, 0, 1);
            over.days(1);
            Due.are("licence till DAY 0", known(over), 1, 1);
            BlissMarket his = Due.told("fact a day 900 worth 1;fact b day 900 worth 1;rule b from a;" + P + Q + "licence p b till 9;meets p q on 1;");
            his.word(0, 0);
            his.days(1);
            Due.are("the first one's licence does not matter", known(his), 3, 3);
        });
        s.hold(16, ", and for which the TEST of tells holds (of the first one", () -> {
            String town = "fact a day 900 worth 4;fact b day 900 worth 5;fact c day 900 worth 6;person p street 1 purse 0;person q street 2 purse 0;"
                + "licence p c till 9;meets p q on 1;tells ";
            String[] tests = {"worth<5", "worth>5", "worth=5", "street=1", "street=2", "other=2", "other=1", "holds=1", "holds=0", "knows=2", "knows=0",
                "worth=4 or worth=5", "not all"};
            int[] due = {1, 0, 2, 3, 0, 3, 0, 3, 0, 3, 0, 3, 0};
            for (int k = 0; k < tests.length; k++) {
                BlissMarket x = Due.told(town + tests[k] + ";");
                x.word(0, 0);
                x.word(0, 1);
                x.days(1);
                Due.is("tells " + tests[k], x.person(1, 2), due[k]);
            }
        });
        s.hold(16, "; all without tells", () -> {
            BlissMarket x = Due.told("fact a day 900 worth 0;fact b day 900 worth 99;" + P + Q + "meets p q on 1;");
            x.word(0, 0);
            x.word(0, 1);
            x.days(1);
            Due.are("all", known(x), 3, 3);
        });
        s.hold(16, "; by what is so ahead of that MEETING)", () -> {
            BlissMarket x = Due.told(Town.facts(2, 900, 1) + P + Q + R + "meets p q on 1;meets q r on 1;tells knows=2;");
            x.word(0, 0);
            x.word(0, 1);
            x.days(1);
            Due.are("both, and q, who knows both by then, on to r", known(x), 3, 3, 3);
            BlissMarket y = Due.told(Town.facts(2, 900, 1) + P + Q + "meets p q on 1;tells knows<2;");
            y.word(0, 0);
            y.days(1);
            y.word(0, 1);
            y.days(7);
            Due.are("a, but not b", known(y), 3, 1);
        });
        s.hold(16, "; then the second one INFERS.", () -> {
            BlissMarket x = Due.told(Town.facts(3, 900, 1) + "rule c from b;rule b from a;" + P + Q + R + "licence p b till 0;licence q c till 9;"
                + "meets p q on 1;meets q r on 1;");
            Due.feed(x, Town.image(0, 1, 0, 0, 0, 0, 0, 0, 0, 0, 10, 0, 0, 0, 0, 0));
            Due.is("p knows a alone", x.on(), true);
            x.days(1);
            Due.are("all follows", known(x), 7, 7, 7);
            Due.is("a BREACH", x.has(10), 1);
            Due.are("of q", breach(x, 0), 1, 1, 2, 0);
            BlissMarket y = Due.told(Town.facts(2, 900, 1) + "fact c day 900 worth 9;rule c from a b;" + P + Q + "meets p q on 1;tells worth<9;");
            y.word(0, 0);
            y.word(1, 1);
            y.days(1);
            Due.are("by what he knew and what he was told", known(y), 1, 7);
        });
    }

    private static void breachesAndBliss(Sentences s) {
        s.hold(20, "A BREACH is what one learns for which he has a VALID licence.", () -> {
            BlissMarket x = Due.told("fact a day 2 worth 1;fact b day 900 worth 1;rule b from a;" + P + Q + R + "licence p b till 2;licence q b till 1;");
            Due.is("BREACHES", x.days(2), 1);
            Due.are("p, whose licence is till this DAY", breach(x, 0), 2, 0, 1, 0);
            Due.are("all learn it", known(x), 3, 3, 3);
            Due.is("not again", x.days(1), 0);
        });
        s.hold(20, "KEPT of each is: DAY, PERSON, FACT, the RULE (the last 40 are told).", () -> {
            String licences = "";
            for (char p = 'p'; p <= 'w'; p++) {
                licences += Town.many(5, "licence " + p + " # till 9;", 'b');
            }
            BlissMarket x = Due.told("stock 40;fact a day 1 worth 1;" + Town.many(5, "fact # day 900 worth 1;", 'b') + "fact y day 900 worth 1;"
                + "fact z day 900 worth 1;" + Town.people(8, 0, 0) + Town.many(5, "rule # from a;", 'b') + "rule z from y;" + licences);
            Due.is("forty", x.days(1), 40);
            Due.is("all are told", x.has(10), 40);
            for (int k = 0; k < 40; k++) {
                Due.are("the " + k + "th", breach(x, k), 1, k / 5, k % 5 + 1, k % 5);
            }
            x.back(0, 1);
            x.buy(7, 7, 3);
            Due.is("one more", x.word(7, 6), 2);
            Due.is("forty are told", x.has(10), 40);
            Due.are("the first one is gone", breach(x, 0), 1, 0, 2, 1);
            Due.are("the last one", breach(x, 39), 1, 7, 7, 5);
        });
        s.hold(10, "BLISS of a PERSON: worth of all COMMON FACTS that he does not know.", () -> {
            BlissMarket x = Due.told("fact a day 0 worth 1;fact b day 1 worth 10;fact c day 2 worth 99;fact d day 900 worth 50;" + P + Q
                + "licence p a till 1;licence p b till 1;licence p c till 9;");
            Due.are("DAY 0", new int[] {x.person(0, 4), x.person(1, 4)}, 1, 0);
            x.days(1);
            Due.are("DAY 1", new int[] {x.person(0, 4), x.person(1, 4)}, 11, 0);
            x.days(1);
            Due.are("DAY 2", new int[] {x.person(0, 4), x.person(1, 4)}, 99, 0);
            x.back(0, 2);
            Due.is("without a licence he does not know it yet", x.person(0, 4), 99);
            x.days(1);
            Due.is("now he does", x.person(0, 4), 0);
        });
    }

    private static void acts(Sentences s) {
        s.hold(13, "ACTS: a licence is bought for n DAYS (till this DAY and n less 1)", () -> {
            BlissMarket x = Due.told(Town.facts(3, 900, 1) + P);
            x.days(5);
            x.buy(0, 0, 1);
            x.buy(0, 1, 2);
            x.buy(0, 2, 99);
            Due.are("till", new int[] {x.licence(0, 0), x.licence(0, 1), x.licence(0, 2)}, 5, 6, 103);
        });
        s.hold(12, ": its price is the SUM of price, 0 .. 999 (0 without)", () -> {
            String[] sums = {"0", "1", "999", "1000", "9999", "0-1", "0-9999", "9999*9999", "0-9999*9999"};
            int[] due = {0, 1, 999, 999, 999, 0, 0, 999, 0};
            for (int k = 0; k < sums.length; k++) {
                BlissMarket x = Due.told("fact a day 900 worth 1;person p street 0 purse 999;price " + sums[k] + ";");
                Due.are(sums[k], new int[] {x.price(0, 0, 1), x.buy(0, 0, 1), x.person(0, 1)}, due[k], due[k], 999 - due[k]);
            }
            BlissMarket without = Due.told("fact a day 900 worth 99;person p street 9 purse 0;");
            Due.are("without", new int[] {without.price(0, 0, 99), without.buy(0, 0, 99)}, 0, 0);
        });
        s.hold(14, "; one is given back", () -> {
            BlissMarket x = Due.told("stock 1;" + A + P + "licence p a till 0;");
            Due.is("back", x.back(0, 0), true);
            Due.are("one ACT", new int[] {x.has(11), x.has(4), x.has(5)}, 1, 0, 1);
        });
        s.hold(15, "; a word is said at a door: one learns a FACT (if he has no VALID licence for it), and INFERS", () -> {
            BlissMarket x = Due.told(Town.facts(4, 900, 1) + "rule c from b;rule b from a;" + P + Q + "licence p a till 1;licence q d till 0;licence q c till 0;");
            Due.is("he has one", x.word(0, 0), NONE);
            Due.is("the other one has none", x.word(1, 0), 3);
            Due.are("known", known(x), 0, 7);
            Due.is("a BREACH", x.has(10), 1);
            x.days(1);
            Due.is("VALID still", x.word(0, 0), NONE);
            Due.is("over", x.word(1, 3), 1);
            x.days(1);
            Due.is("over", x.word(0, 0), 3);
        });
        s.hold(16, "; a DAY goes by (the next one begins)", () -> {
            BlissMarket x = Due.told("fact a day 1 worth 1;fact b day 2 worth 1;" + P);
            x.days(1);
            Due.are("the next one, and no more", new int[] {x.has(6), x.person(0, 2)}, 1, 1);
        });
        s.hold(17, "; DAYS with rumours.", () -> {
            BlissMarket x = Due.told("fact a day 1 worth 1;fact b day 2 worth 1;" + P + Q + "licence p a till 9;licence p b till 9;");
            Due.is("rumours(3)", x.rumours(3), 0);
            Due.are("DAYS go by as well", new int[] {x.has(6), x.person(0, 2), x.person(1, 2), x.has(11)}, 3, 0, 3, 1);
        });
        s.hold(18, "The last 20 can be undone.", () -> {
            for (int acts : new int[] {1, 19, 20, 21, 45}) {
                BlissMarket x = Due.told(A + P);
                for (int k = 0; k < acts; k++) {
                    x.days(1);
                }
                int some = Math.min(acts, 20);
                Due.is("ACTS", x.has(11), some);
                for (int k = 1; k <= some; k++) {
                    Due.is("undo()", x.undo(), true);
                    Due.are("DAY, ACTS", new int[] {x.has(6), x.has(11)}, acts - k, some - k);
                }
                Due.is("no more", x.undo(), false);
                x.days(1);
                Due.are("and on from there", new int[] {x.has(11), x.has(6)}, 1, acts - some + 1);
            }
        });
    }

    private static void rumours(Sentences s) {
        s.hold(17, "Rumours: behind the beginning of each such DAY a DRAW of the PEOPLE, a DRAW of the FACTS, a DRAW of 2", () -> {
            for (int seed : new int[] {0, 1, 2, 64, 4711, MOST}) {
                BlissMarket x = Due.told(Town.facts(5, 900, 1) + P + Q + R);
                x.seed(seed);
                Draws d = new Draws(seed);
                int[] knows = new int[3];
                for (int k = 0; k < 12; k++) {
                    int n = k % 3 + 1;
                    x.rumours(n);
                    for (int day = 0; day < n; day++) {
                        int who = d.of(3);
                        int what = d.of(5);
                        if (d.of(2) == 1) {
                            knows[who] |= 1 << what;
                        }
                    }
                    Due.are("known", known(x), knows);
                    Due.is("the seed", x.has(12), d.x);
                }
            }
        });
        s.hold(17, "behind the beginning of each such DAY", () -> {
            String week = "";
            for (int day = 0; day < 7; day++) {
                week += "meets p q on " + day + ";meets q p on " + day + ";";
            }
            int heard = 0;
            for (int seed = 0; seed < 40; seed++) {
                BlissMarket x = Due.told("fact a day 900 worth 1;" + P + Q + week);
                x.seed(seed);
                Draws d = new Draws(seed);
                int who = d.of(2);
                d.of(1);
                boolean hears = d.of(2) == 1;
                heard += hears ? 1 : 0;
                x.rumours(1);
                Due.are("that one alone", known(x), hears && who == 0 ? 1 : 0, hears && who == 1 ? 1 : 0);
                x.days(1);
                Due.are("on the next DAY both", known(x), hears ? 1 : 0, hears ? 1 : 0);
            }
            Due.is("some heard, some did not", heard > 0 && heard < 40, true);
        });
        s.hold(17, ": by 1 that one hears it as a word at his door (nothing, if he has a VALID licence", () -> {
            int breaches = 0;
            for (int seed = 0; seed < 60; seed++) {
                BlissMarket x = Due.told(Town.facts(3, 900, 1) + "rule c from a;" + P + Q + "licence p a till 1;licence q b till 0;licence q c till 1;");
                x.seed(seed);
                Draws d = new Draws(seed);
                int who = d.of(2);
                int what = d.of(3);
                int[] knows = new int[2];
                boolean held = who == 0 && what == 0 || who == 1 && what == 2;
                if (d.of(2) == 1 && !held) {
                    knows[who] = what == 0 ? 5 : 1 << what;
                }
                int due = knows[1] == 5 ? 1 : 0;
                breaches += due;
                Due.is("BREACHES", x.rumours(1), due);
                Due.are("known", known(x), knows);
            }
            Due.is("some BREACHES", breaches > 0, true);
        });
        s.hold(17, "; without PEOPLE or FACTS no DRAWS).", () -> {
            for (String text : new String[] {"", A, Town.facts(12, 0, 1), P, Town.people(8, 0, 0)}) {
                BlissMarket x = Due.told(text);
                x.seed(99);
                Due.is("rumours(30)", x.rumours(30), 0);
                Due.are("no DRAWS, but DAYS", new int[] {x.has(12), x.has(6), x.has(11)}, 99, 30, 1);
            }
            BlissMarket one = Due.told(A + P);
            one.seed(99);
            one.rumours(1);
            Draws d = new Draws(99);
            d.of(1);
            d.of(1);
            d.of(2);
            Due.is("with one of each three", one.has(12), d.x);
        });
    }

    private static void draws(Sentences s) {
        s.hold(17, "A DRAW of m: x (the seed) becomes (1103515245 x + 12345) mod 2 to the 31", () -> {
            // 0, 12345 by the first DRAW, then as 1103515245 * 12345 + 12345 goes on
            BlissMarket x = Due.told(A + P);
            x.seed(0);
            x.rumours(1);
            java.math.BigInteger y = java.math.BigInteger.ZERO;
            for (int k = 0; k < 3; k++) {
                y = y.multiply(java.math.BigInteger.valueOf(1103515245)).add(java.math.BigInteger.valueOf(12345))
                    .mod(java.math.BigInteger.TWO.pow(31));
            }
            Due.is("from 0 on", x.has(12), y.longValue());
            for (int seed : new int[] {1, MOST, MOST - 1, 1 << 30, 12345}) {
                x.seed(seed);
                Draws d = new Draws(seed);
                for (int k = 0; k < 30; k++) {
                    x.rumours(1);
                    d.of(1);
                    d.of(1);
                    d.of(2);
                    Due.is("never below 0, nor 2 to the 31", x.has(12), d.x);
                }
            }
        });
        s.hold(17, "; floor(x / 64) mod m.", () -> {
            for (int people = 1; people <= 8; people++) {
                for (int facts : new int[] {1, 2, 7, 11, 12}) {
                    BlissMarket x = Due.told(Town.facts(facts, 900, 1) + Town.people(people, 0, 0));
                    x.seed(people * 1000003 + facts);
                    Draws d = new Draws(people * 1000003 + facts);
                    int[] knows = new int[people];
                    for (int k = 0; k < 20; k++) {
                        int who = d.of(people);
                        int what = d.of(facts);
                        knows[who] |= d.of(2) << what;
                    }
                    x.rumours(20);
                    Due.are("of " + people + " and " + facts, known(x), knows);
                }
            }
        });
    }

    // ------------------------------------------------------------ promises 6 to 12

    private static void has(Sentences s) {
        s.hold(6, "How many there are: 0 FACTS, 1 RULES, 2 PEOPLE, 3 MEETINGS", () -> {
            BlissMarket x = Due.told(Town.facts(12, 0, 0) + Town.people(8, 0, 0) + Town.many(16, "rule a from b;") + Town.many(16, "meets p q on 6;"));
            Due.are("the most", new int[] {x.has(0), x.has(1), x.has(2), x.has(3)}, 12, 16, 8, 16);
            BlissMarket y = Due.told("stock 1;");
            Due.are("none", new int[] {y.has(0), y.has(1), y.has(2), y.has(3)}, 0, 0, 0, 0);
        });
        s.hold(6, ", 4 licences that are VALID, 5 those left in stock", () -> {
            BlissMarket x = Due.told("stock 99;" + Town.facts(12, 1, 99) + Town.people(8, 0, 0));
            Due.are("none", new int[] {x.has(4), x.has(5)}, 0, 99);
            for (int k = 0; k < 96; k++) {
                x.buy(k / 12, k % 12, 2);
            }
            Due.are("the most", new int[] {x.has(4), x.has(5)}, 96, 3);
            x.days(1);
            Due.are("on the last DAY", new int[] {x.has(4), x.has(5), x.has(9)}, 96, 3, 8 * 12 * 99);
            x.days(1);
            Due.are("when they are over", new int[] {x.has(4), x.has(5), x.has(9)}, 0, 99, 0);
            BlissMarket y = Due.told("stock 1;" + A + P + "licence p a till 0;");
            Due.are("none is left", new int[] {y.has(4), y.has(5)}, 1, 0);
            BlissMarket z = Due.told("stock 0;" + A + P);
            Due.are("of none", new int[] {z.has(4), z.has(5)}, 0, 0);
        });
        s.hold(6, ", 6 DAY", () -> {
            BlissMarket x = new BlissMarket();
            Due.is("DAY 0", x.has(6), 0);
            x.days(1);
            Due.is("DAY 1", x.has(6), 1);
            Town.goTo(x, 999);
            Due.is("DAY 999", x.has(6), 999);
        });
        s.hold(6, ", 7 COMMON FACTS, as bits", () -> {
            Due.is("all", Due.told(Town.facts(12, 0, 0)).has(7), 4095);
            Due.is("none", Due.told(Town.facts(12, 1, 0)).has(7), 0);
            Due.is("the last", Due.told(Town.facts(11, 1, 0) + "fact l day 0 worth 0;").has(7), 2048);
            BlissMarket x = Due.told(A + P + "licence p a till 9;");
            Due.is("known or not", x.has(7), 1);
        });
        s.hold(6, ", 8 coins in purses", () -> {
            BlissMarket x = Due.told(Town.people(8, 0, 999) + "fact a day 5 worth 1;price 999;");
            Due.is("the most", x.has(8), 8 * 999);
            x.buy(7, 0, 1);
            Due.is("less what is paid", x.has(8), 7 * 999);
            Due.is("none", Due.told(Town.people(8, 0, 0)).has(8), 0);
        });
        s.hold(6, ", 9 BLISS of all together", () -> {
            BlissMarket x = Due.told("fact a day 0 worth 7;fact b day 1 worth 50;" + P + Q + R + "licence p a till 0;licence q a till 0;licence r b till 1;");
            Due.is("two do not know a", x.has(9), 14);
            x.days(1);
            Due.is("one does not know b", x.has(9), 50);
            x.days(1);
            Due.is("all know all", x.has(9), 0);
        });
        s.hold(6, ", 10 BREACHES that are told as KEPT", () -> {
            BlissMarket x = Due.told(Town.facts(1, 5, 1) + "fact b day 5 worth 1;rule b from a;" + P + "licence p b till 9;");
            Due.is("none", x.has(10), 0);
            x.word(0, 0);
            Due.is("one", x.has(10), 1);
            x.undo();
            Due.is("none again", x.has(10), 0);
        });
        s.hold(6, ", 11 ACTS that can be undone", () -> {
            BlissMarket x = Due.told("fact a day 5 worth 1;fact b day 5 worth 1;person p street 0 purse 9;");
            Due.is("none", x.has(11), 0);
            x.buy(0, 0, 1);
            x.back(0, 0);
            x.word(0, 0);
            x.days(30);
            x.rumours(30);
            Due.is("of each kind one", x.has(11), 5);
            x.buy(0, 0, 1);
            x.back(0, 0);
            x.word(0, 0);
            x.days(0);
            x.rumours(31);
            x.seed(5);
            x.seed(-5);
            x.image();
            x.rest(0);
            x.when(0, 1);
            Due.is("no refused one, nor what is asked", x.has(11), 5);
            x.undo();
            Due.is("less one", x.has(11), 4);
        });
        s.hold(6, ", 12 the seed", () -> {
            BlissMarket x = new BlissMarket();
            Due.is("1", x.has(12), 1);
            x.seed(0);
            Due.is("0", x.has(12), 0);
            x.seed(MOST);
            Due.is("the most", x.has(12), MOST);
        });
        s.hold(6, ". NONE for others.", () -> {
            BlissMarket x = Due.told(A + P);
            Due.are("has", new int[] {x.has(13), x.has(-1), x.has(MOST), x.has(LEAST)}, NONE, NONE, NONE, NONE);
        });
    }

    private static void letter(Sentences s) {
        String text = "fact azbycx day 0 worth 0;fact z day 0 worth 0;person abcde street 0 purse 0;person q street 0 purse 0;";
        s.hold(7, "Letter k (0 .. 5) of the NAME of a FACT (kind 0), a PERSON (1): 1 .. 26", () -> {
            BlissMarket x = Due.told(text);
            int[] due = {1, 26, 2, 25, 3, 24};
            for (int k = 0; k < 6; k++) {
                Due.is("letter(0, 0, " + k + ")", x.letter(0, 0, k), due[k]);
            }
            for (int k = 0; k < 5; k++) {
                Due.is("letter(1, 0, " + k + ")", x.letter(1, 0, k), k + 1);
            }
            Due.are("one letter", new int[] {x.letter(0, 1, 0), x.letter(1, 1, 0)}, 26, 17);
            BlissMarket all = Due.told("fact abcdef day 0 worth 0;fact ghijkl day 0 worth 0;fact mnopqr day 0 worth 0;fact stuvwx day 0 worth 0;fact yz day 0 worth 0;");
            for (int k = 0; k < 26; k++) {
                Due.is("letter " + k, all.letter(0, k / 6, k % 6), k + 1);
            }
        });
        s.hold(7, "; 0 behind it", () -> {
            BlissMarket x = Due.told(text);
            Due.is("letter(1, 0, 5)", x.letter(1, 0, 5), 0);
            for (int k = 1; k < 6; k++) {
                Due.are("letter(.., 1, " + k + ")", new int[] {x.letter(0, 1, k), x.letter(1, 1, k)}, 0, 0);
            }
        });
        s.hold(7, "; NONE when there is none such.", () -> {
            BlissMarket x = Due.told(text);
            Due.are("k", new int[] {x.letter(0, 0, 6), x.letter(0, 0, -1), x.letter(1, 0, MOST), x.letter(1, 0, LEAST)}, NONE, NONE, NONE, NONE);
            Due.are("which", new int[] {x.letter(0, 2, 0), x.letter(0, -1, 0), x.letter(1, 2, 0), x.letter(1, -1, 0)}, NONE, NONE, NONE, NONE);
            Due.are("kind", new int[] {x.letter(2, 0, 0), x.letter(-1, 0, 0), x.letter(MOST, 0, 0), x.letter(LEAST, 0, 0)}, NONE, NONE, NONE, NONE);
            for (int odd : ODD) {
                Due.are("odd", new int[] {x.letter(0, odd, 0), x.letter(1, odd, 0), x.letter(0, 0, odd), x.letter(odd, 0, 0)}, NONE, NONE, NONE, NONE);
            }
            BlissMarket other = Due.told(A + P + Q);
            Due.are("of each kind as many as there are", new int[] {other.letter(0, 1, 0), other.letter(1, 1, 0)}, NONE, 17);
        });
    }

    private static void fact(Sentences s) {
        s.hold(8, "Of a FACT: 0 its day, 1 worth", () -> {
            BlissMarket x = Due.told("fact a day 0 worth 99;fact b day 999 worth 0;");
            Due.are("day, worth", new int[] {x.fact(0, 0), x.fact(0, 1), x.fact(1, 0), x.fact(1, 1)}, 0, 99, 999, 0);
        });
        s.hold(8, ", 2 how many know it", () -> {
            BlissMarket x = Due.told(Town.facts(11, 0, 1) + "fact l day 1 worth 1;" + Town.people(8, 0, 0) + "licence w l till 1;licence w a till 0;");
            Due.are("DAY 0", new int[] {x.fact(0, 2), x.fact(11, 2)}, 7, 0);
            x.days(1);
            Due.are("DAY 1", new int[] {x.fact(0, 2), x.fact(11, 2)}, 8, 7);
            x.days(1);
            Due.are("DAY 2", new int[] {x.fact(0, 2), x.fact(11, 2)}, 8, 8);
        });
        s.hold(8, ", 3 how many hold a VALID licence for it", () -> {
            BlissMarket x = Due.told(Town.facts(2, 0, 1) + Town.people(8, 0, 0) + Town.many(8, "licence # b till 1;", 'p') + "licence p a till 0;");
            Due.are("DAY 0", new int[] {x.fact(0, 3), x.fact(1, 3)}, 1, 8);
            x.days(1);
            Due.are("DAY 1", new int[] {x.fact(0, 3), x.fact(1, 3)}, 0, 8);
            x.days(1);
            Due.are("DAY 2", new int[] {x.fact(0, 3), x.fact(1, 3)}, 0, 0);
        });
        s.hold(8, ", 4 how many RULES give it", () -> {
            BlissMarket x = Due.told(Town.facts(3, 0, 1) + Town.many(15, "rule a from b;") + "rule b from c;");
            Due.are("given", new int[] {x.fact(0, 4), x.fact(1, 4), x.fact(2, 4)}, 15, 1, 0);
        });
        s.hold(8, ", 5 what it is needed for, as bits of FACTS", () -> {
            BlissMarket x = Due.told(Town.facts(12, 0, 1) + Town.many(11, "rule # from a;", 'b') + "rule a from l;rule b from l k;rule b from k;");
            Due.are("needed for", new int[] {x.fact(0, 5), x.fact(11, 5), x.fact(10, 5), x.fact(1, 5)}, 4094, 3, 2, 0);
            BlissMarket most = Due.told(Town.facts(12, 0, 1) + Town.many(15, "rule b from a;") + "rule l from a k;");
            Due.are("of 16 RULES", new int[] {most.fact(0, 5), most.fact(10, 5), most.fact(11, 5)}, 2050, 2048, 0);
        });
        s.hold(8, ". NONE when there is none such, or for others.", () -> {
            BlissMarket x = Due.told(A + B);
            Due.are("what", new int[] {x.fact(0, 6), x.fact(0, -1), x.fact(1, MOST), x.fact(1, LEAST)}, NONE, NONE, NONE, NONE);
            for (int what = 0; what < 6; what++) {
                Due.is("fact(2, " + what + ")", x.fact(2, what), NONE);
                for (int odd : ODD) {
                    Due.is("fact(" + odd + ", " + what + ")", x.fact(odd, what), NONE);
                }
            }
        });
    }

    private static void rule(Sentences s) {
        s.hold(9, "Of a RULE: 0 the FACT that follows, 1 those from which, as bits", () -> {
            BlissMarket x = Due.told(Town.facts(12, 0, 1) + Town.many(14, "rule b from c;") + "rule a from l b c d e f g h i j k;rule l from a;");
            Due.are("the last two", new int[] {x.rule(14, 0), x.rule(14, 1), x.rule(15, 0), x.rule(15, 1), x.rule(0, 0), x.rule(0, 1)}, 0, 4094, 11, 1, 1, 4);
        });
        s.hold(9, ". NONE when there is none such, or for others.", () -> {
            BlissMarket x = Due.told(A + B + "rule a from b;");
            Due.are("what", new int[] {x.rule(0, 2), x.rule(0, -1), x.rule(0, MOST), x.rule(0, LEAST)}, NONE, NONE, NONE, NONE);
            Due.are("which", new int[] {x.rule(1, 0), x.rule(1, 1)}, NONE, NONE);
            for (int odd : ODD) {
                Due.are("rule(" + odd + ")", new int[] {x.rule(odd, 0), x.rule(odd, 1)}, NONE, NONE);
            }
        });
    }

    private static void person(Sentences s) {
        s.hold(10, "Of a PERSON: 0 street, 1 purse", () -> {
            BlissMarket x = Due.told("fact a day 9 worth 1;person p street 0 purse 999;person q street 9 purse 0;price 999;");
            Due.are("at first", new int[] {x.person(0, 0), x.person(0, 1), x.person(1, 0), x.person(1, 1)}, 0, 999, 9, 0);
            x.buy(0, 0, 1);
            Due.is("all is paid", x.person(0, 1), 0);
        });
        s.hold(10, ", 2 what he knows, as bits, 3 VALID licences as bits of FACTS", () -> {
            BlissMarket x = Due.told(Town.facts(12, 1, 1) + P + Q + Town.many(12, "licence q # till 1;"));
            Due.are("DAY 0", new int[] {x.person(0, 2), x.person(0, 3), x.person(1, 2), x.person(1, 3)}, 0, 0, 0, 4095);
            x.days(1);
            Due.are("DAY 1", new int[] {x.person(0, 2), x.person(0, 3), x.person(1, 2), x.person(1, 3)}, 4095, 0, 0, 4095);
            x.days(1);
            Due.are("DAY 2", new int[] {x.person(0, 2), x.person(0, 3), x.person(1, 2), x.person(1, 3)}, 4095, 0, 4095, 0);
        });
        s.hold(10, ", 4 BLISS", () -> {
            BlissMarket x = Due.told(Town.facts(12, 0, 99) + P + Q + Town.many(12, "licence q # till 1;"));
            Due.are("nothing, the most", new int[] {x.person(0, 4), x.person(1, 4)}, 0, 12 * 99);
        });
        s.hold(10, ", 5 how many of the BREACHES told as KEPT are his", () -> {
            BlissMarket x = Due.told("stock 99;fact a day 1 worth 1;" + Town.many(6, "fact # day 900 worth 1;", 'b') + "fact y day 900 worth 1;"
                + Town.people(8, 0, 0) + Town.many(6, "rule # from a;", 'b') + Town.many(8, "licence # y till 3;", 'p'));
            for (int k = 0; k < 48; k++) {
                x.buy(k / 6, k % 6 + 1, 9);
            }
            Due.is("none yet", x.person(7, 5), 0);
            x.days(1);
            Due.are("of 48 the last 40", new int[] {x.person(0, 5), x.person(1, 5), x.person(2, 5), x.person(7, 5)}, 0, 4, 6, 6);
        });
        s.hold(10, ". NONE when there is none such, or for others.", () -> {
            BlissMarket x = Due.told(P + Q);
            Due.are("what", new int[] {x.person(0, 6), x.person(0, -1), x.person(1, MOST), x.person(1, LEAST)}, NONE, NONE, NONE, NONE);
            for (int what = 0; what < 6; what++) {
                Due.is("person(2, " + what + ")", x.person(2, what), NONE);
                for (int odd : ODD) {
                    Due.is("person(" + odd + ", " + what + ")", x.person(odd, what), NONE);
                }
            }
        });
    }

    private static void licenceAndPrice(Sentences s) {
        s.hold(11, "The DAY till which a PERSON's licence for a FACT is", () -> {
            BlissMarket x = Due.told(Town.facts(12, 0, 1) + Town.people(8, 0, 0) + "licence p a till 0;licence w l till 999;licence p l till 5;licence w a till 6;");
            Due.are("till", new int[] {x.licence(0, 0), x.licence(7, 11), x.licence(0, 11), x.licence(7, 0)}, 0, 999, 5, 6);
        });
        s.hold(11, "; NONE without a VALID one, or when there are none such.", () -> {
            BlissMarket x = Due.told(Town.facts(2, 9, 1) + P + Q + "licence p a till 0;licence p b till 0;licence q a till 0;");
            Due.is("without", x.licence(1, 1), NONE);
            Due.are("none such", new int[] {x.licence(0, 2), x.licence(2, 0), x.licence(2, 2)}, NONE, NONE, NONE);
            for (int odd : ODD) {
                Due.are("odd", new int[] {x.licence(odd, 0), x.licence(0, odd), x.licence(odd, odd)}, NONE, NONE, NONE);
            }
            x.back(0, 0);
            Due.is("given back", x.licence(0, 0), NONE);
            x.days(1);
            Due.are("not VALID any more", new int[] {x.licence(0, 1), x.licence(1, 0)}, NONE, NONE);
        });
        s.hold(12, "What a licence would cost a PERSON for a FACT for n DAYS (1 .. 99)", () -> {
            BlissMarket x = Due.told("stock 0;fact a day 0 worth 40;fact b day 5 worth 50;person p street 1 purse 0;person q street 2 purse 0;price worth+street*100+days*3;");
            Due.are("of each of them", new int[] {x.price(0, 0, 1), x.price(0, 1, 1), x.price(1, 0, 1), x.price(1, 1, 99)}, 143, 153, 243, 547);
            Due.are("known or not, in the purse or not, left or not", new int[] {x.person(0, 2), x.person(0, 1), x.has(5)}, 1, 0, 0);
            Town.goTo(x, 999);
            Due.is("on the last DAY", x.price(0, 0, 99), 437);
        });
        s.hold(12, "; NONE when there are none such.", () -> {
            BlissMarket x = Due.told(A + P + "price 5;");
            Due.are("n", new int[] {x.price(0, 0, 0), x.price(0, 0, 100), x.price(0, 0, -1), x.price(0, 0, MOST), x.price(0, 0, LEAST)},
                NONE, NONE, NONE, NONE, NONE);
            Due.are("the first beyond", new int[] {x.price(1, 0, 1), x.price(0, 1, 1)}, NONE, NONE);
            for (int odd : ODD) {
                Due.are("odd", new int[] {x.price(odd, 0, 1), x.price(0, odd, 1)}, NONE, NONE);
            }
        });
    }

    // ------------------------------------------------------------ promises 13 to 20

    private static void noBuy(BlissMarket x, int person, int fact, int n) {
        String before = Town.all(x);
        int refused = x.status(2);
        Due.is("buy(" + person + ", " + fact + ", " + n + ")", x.buy(person, fact, n), NONE);
        Due.is("status(2)", x.status(2), refused + 1);
        Town.same("all stays", Town.all(x), before);
    }

    private static void buy(Sentences s) {
        String town = "fact a day 900 worth 9;fact b day 900 worth 1;fact c day 0 worth 1;person p street 0 purse 20;person q street 0 purse 0;price worth;";
        s.hold(13, "A licence is bought: its price", () -> {
            BlissMarket x = Due.told(town);
            Due.is("buy", x.buy(0, 0, 1), 9);
            Due.are("purse, licence, left, ACTS", new int[] {x.person(0, 1), x.licence(0, 0), x.has(5), x.has(11)}, 11, 0, 19, 1);
            Due.are("the other one's", new int[] {x.person(1, 1), x.licence(1, 0), x.licence(0, 1)}, 0, NONE, NONE);
            BlissMarket free = Due.told(A.replace("day 0", "day 9") + P);
            Due.is("for 0, from a purse of 0", free.buy(0, 0, 1), 0);
        });
        s.hold(13, "; NONE, refused (2), when there are none such", () -> {
            BlissMarket x = Due.told(town);
            noBuy(x, 2, 0, 1);
            noBuy(x, 0, 3, 1);
            for (int odd : ODD) {
                noBuy(x, odd, 0, 1);
                noBuy(x, 0, odd, 1);
            }
            Due.is("on an empty one", new BlissMarket().buy(0, 0, 1), NONE);
        });
        s.hold(13, ", he holds a VALID one for it", () -> {
            BlissMarket x = Due.told(town);
            x.buy(0, 1, 1);
            noBuy(x, 0, 1, 1);
            noBuy(x, 0, 1, 5);
            x.days(1);
            Due.is("it is over", x.buy(0, 1, 1), 1);
            BlissMarket till = Due.told(town + "licence p b till 1;");
            noBuy(till, 0, 1, 5);
            till.days(1);
            noBuy(till, 0, 1, 5);
            till.days(1);
            Due.is("it is over", till.buy(0, 1, 5), 1);
        });
        s.hold(13, ", he knows it", () -> {
            BlissMarket x = Due.told(town);
            noBuy(x, 0, 2, 1);
            x.word(0, 1);
            noBuy(x, 0, 1, 1);
            BlissMarket y = Due.told(town + "licence p c till 0;");
            y.back(0, 2);
            Due.is("COMMON, but not known", y.buy(0, 2, 1), 1);
        });
        s.hold(13, ", n is not 1 .. 99", () -> {
            BlissMarket x = Due.told(town);
            noBuy(x, 0, 0, 0);
            noBuy(x, 0, 0, 100);
            noBuy(x, 0, 0, -1);
            noBuy(x, 0, 0, MOST);
            noBuy(x, 0, 0, LEAST);
            Due.is("n is 1", x.buy(0, 0, 1), 9);
            Due.is("n is 99", x.buy(0, 1, 99), 1);
        });
        s.hold(13, ", none is left", () -> {
            BlissMarket x = Due.told("stock 1;" + town);
            Due.is("the last one", x.buy(0, 0, 1), 9);
            noBuy(x, 0, 1, 1);
            x.days(1);
            Due.is("it is back", x.buy(0, 1, 1), 1);
            noBuy(Due.told("stock 0;" + town), 0, 1, 1);
        });
        s.hold(13, ", till would be above 999", () -> {
            BlissMarket x = Due.told(town.replace("900", "999"));
            Town.goTo(x, 998);
            noBuy(x, 0, 0, 3);
            noBuy(x, 0, 0, 99);
            Due.is("till DAY 999", x.buy(0, 0, 2), 9);
            Due.is("licence", x.licence(0, 0), 999);
            BlissMarket y = Due.told(town.replace("900", "999"));
            Town.goTo(y, 901);
            Due.is("for 99", y.buy(0, 0, 99), 9);
            Due.is("till DAY 999", y.licence(0, 0), 999);
            BlissMarket z = Due.told("fact a day 999 worth 1;" + P + "licence p a till 999;");
            Town.goTo(z, 999);
            z.back(0, 0);
            noBuy(z, 0, 0, 2);
            Due.is("on the last DAY for one", z.buy(0, 0, 1), 0);
        });
        s.hold(13, ", or the purse has not so much.", () -> {
            BlissMarket x = Due.told("fact a day 9 worth 1;person p street 0 purse 8;person q street 0 purse 9;person r street 0 purse 10;price 9;");
            noBuy(x, 0, 0, 1);
            Due.are("just so much, more", new int[] {x.buy(1, 0, 1), x.buy(2, 0, 1)}, 9, 9);
            Due.are("purses", new int[] {x.person(0, 1), x.person(1, 1), x.person(2, 1)}, 8, 0, 1);
            BlissMarket most = Due.told("fact a day 9 worth 1;person p street 0 purse 998;person q street 0 purse 999;price 9999;");
            noBuy(most, 0, 0, 1);
            Due.is("999", most.buy(1, 0, 1), 999);
        });
    }

    private static void noBack(BlissMarket x, int person, int fact) {
        String before = Town.all(x);
        int refused = x.status(2);
        Due.is("back(" + person + ", " + fact + ")", x.back(person, fact), false);
        Due.is("status(2)", x.status(2), refused + 1);
        Town.same("all stays", Town.all(x), before);
    }

    private static void back(Sentences s) {
        String town = Town.facts(2, 0, 5) + P + Q + "licence p a till 1;licence q b till 0;";
        s.hold(14, "A VALID licence is given back (for nothing): true", () -> {
            BlissMarket x = Due.told(town + "price 3;");
            Due.is("back", x.back(0, 0), true);
            Due.are("purse, licence, left, ACTS, knows", new int[] {x.person(0, 1), x.licence(0, 0), x.has(5), x.has(11), x.person(0, 2)},
                0, NONE, 19, 1, 2);
            BlissMarket y = Due.told(town);
            y.days(1);
            Due.is("on its last DAY", y.back(0, 0), true);
        });
        s.hold(14, "; false, refused (2), when there is none.", () -> {
            BlissMarket x = Due.told(town);
            noBack(x, 0, 1);
            noBack(x, 1, 0);
            noBack(x, 2, 0);
            noBack(x, 0, 2);
            for (int odd : ODD) {
                noBack(x, odd, 0);
                noBack(x, 0, odd);
            }
            x.back(0, 0);
            noBack(x, 0, 0);
            x.undo();
            x.days(1);
            noBack(x, 1, 1);
            x.days(1);
            noBack(x, 0, 0);
        });
    }

    private static void noWord(BlissMarket x, int person, int fact) {
        String before = Town.all(x);
        int refused = x.status(2);
        Due.is("word(" + person + ", " + fact + ")", x.word(person, fact), NONE);
        Due.is("status(2)", x.status(2), refused + 1);
        Town.same("all stays", Town.all(x), before);
    }

    private static void word(Sentences s) {
        s.hold(15, "A word is said at a door: how many FACTS he learned", () -> {
            BlissMarket x = Due.told(Town.facts(12, 900, 1) + Town.many(11, "rule # from a;", 'b') + P + Q);
            Due.is("one", x.word(0, 11), 1);
            Due.is("all the others", x.word(0, 0), 11);
            Due.is("all", x.word(1, 0), 12);
            Due.is("ACTS", x.has(11), 3);
            BlissMarket y = Due.told(Town.facts(3, 900, 1) + "rule c from a b;rule b from a;" + P);
            Due.is("what follows in a later row, too", y.word(0, 0), 3);
        });
        s.hold(15, "; NONE, refused (2), when there are none such, he knows it, or has a VALID licence for it.", () -> {
            BlissMarket x = Due.told("fact a day 0 worth 1;fact b day 900 worth 1;fact c day 900 worth 1;rule c from b;" + P + Q + "licence p b till 0;licence q c till 1;");
            noWord(x, 2, 1);
            noWord(x, 0, 3);
            for (int odd : ODD) {
                noWord(x, odd, 1);
                noWord(x, 0, odd);
            }
            noWord(x, 0, 0);
            noWord(x, 0, 1);
            noWord(x, 1, 2);
            x.days(1);
            noWord(x, 1, 2);
            Due.is("over", x.word(0, 1), 2);
            noWord(x, 0, 2);
        });
    }

    private static void noDays(BlissMarket x, int n) {
        String before = Town.all(x);
        int refused = x.status(3);
        Due.is("days(" + n + ")", x.days(n), NONE);
        Due.is("rumours(" + n + ")", x.rumours(n), NONE);
        Due.is("status(3)", x.status(3), refused + 2);
        Town.same("all stays", Town.all(x), before);
        Due.is("the seed stays", x.has(12), 1);
    }

    private static void days(Sentences s) {
        s.hold(16, "n DAYS go by (1 .. 30), one ACT: how many BREACHES there were", () -> {
            BlissMarket x = Due.told("stock 99;fact a day 1 worth 1;fact b day 30 worth 1;" + Town.many(6, "fact # day 900 worth 1;", 'c') + "rule c from b;"
                + Town.many(6, "rule # from a;", 'c') + Town.people(8, 0, 0));
            for (int k = 0; k < 48; k++) {
                x.buy(k / 6, k % 6 + 2, 60);
            }
            Due.is("more than are KEPT", x.days(1), 48);
            Due.are("DAY, ACTS, KEPT", new int[] {x.has(6), x.has(11), x.has(10)}, 1, 20, 40);
            Due.is("none", x.days(30), 0);
            BlissMarket y = Due.told("fact a day 1 worth 1;fact b day 30 worth 1;fact c day 900 worth 1;fact d day 900 worth 1;fact e day 900 worth 1;rule c from a;"
                + "rule d from b;rule e from b;" + P + "licence p c till 99;licence p d till 30;licence p e till 29;");
            Due.is("of the first and the last DAY", y.days(30), 2);
            Due.are("DAY, ACTS, KEPT", new int[] {y.has(6), y.has(11), y.has(10)}, 30, 1, 2);
            Due.is("none", y.days(1), 0);
        });
        s.hold(16, "; NONE, refused (3), when n can't be, or beyond DAY 999.", () -> {
            BlissMarket x = Due.told(A + P);
            for (int n : new int[] {0, 31, -1, MOST, LEAST}) {
                noDays(x, n);
            }
            Town.goTo(x, 970);
            noDays(x, 30);
            Due.is("to DAY 999", x.days(29), 0);
            Due.is("DAY", x.has(6), 999);
            noDays(x, 1);
            noDays(x, 30);
            x.undo();
            x.days(28);
            noDays(x, 2);
            Due.is("the last one", x.days(1), 0);
            BlissMarket y = Due.told(A + P);
            Town.goTo(y, 969);
            Due.is("to DAY 999", y.days(30), 0);
        });
    }

    private static void rumouredDays(Sentences s) {
        s.hold(17, "n DAYS with rumours (1 .. 30), one ACT: likewise.", () -> {
            BlissMarket x = Due.told("fact a day 900 worth 1;fact b day 900 worth 1;rule b from a;fact c day 30 worth 1;fact d day 900 worth 1;rule d from c;" + P
                + "licence p b till 99;licence p d till 30;");
            x.seed(3);
            Draws d = new Draws(3);
            boolean heard = false;
            for (int k = 0; k < 30; k++) {
                d.of(1);
                int what = d.of(4);
                heard |= d.of(2) == 1 && what == 0;
            }
            Due.is("a is heard", heard, true);
            Due.is("one BREACH by a rumour, one by a DAY", x.rumours(30), 2);
            Due.are("DAY, ACTS, KEPT", new int[] {x.has(6), x.has(11), x.has(10)}, 30, 1, 2);
            Due.is("no more", x.rumours(1), 0);
            Due.are("DAY, ACTS, KEPT", new int[] {x.has(6), x.has(11), x.has(10)}, 31, 2, 2);
            BlissMarket last = Due.told(A + P);
            Town.goTo(last, 969);
            Due.is("to DAY 999", last.rumours(30), 0);
            Due.are("not beyond", new int[] {last.has(6), last.rumours(1), last.status(3)}, 999, NONE, 1);
        });
    }

    private static void undo(Sentences s) {
        s.hold(18, "The latest ACT is undone: all that ACTS change is as it was ahead of it (but the seed): true", () -> {
            BlissMarket x = Due.told("fact a day 3 worth 9;fact b day 900 worth 1;fact c day 2 worth 1;rule b from a;person p street 0 purse 50;person q street 0 purse 9;"
                + "licence q b till 9;licence p c till 4;price 5;");
            String[] before = new String[5];
            before[0] = Town.all(x);
            x.buy(0, 1, 20);
            before[1] = Town.all(x);
            x.back(0, 2);
            before[2] = Town.all(x);
            x.word(1, 0);
            before[3] = Town.all(x);
            x.days(10);
            before[4] = Town.all(x);
            x.rumours(3);
            int seed = x.has(12);
            Due.is("DRAWS", seed != 1, true);
            for (int k = 4; k >= 0; k--) {
                Due.is("undo()", x.undo(), true);
                Town.same("as it was", Town.all(x), before[k]);
                Due.is("but the seed", x.has(12), seed);
            }
            x.seed(8);
            x.days(1);
            x.seed(9);
            x.undo();
            Due.is("seed() is no ACT", x.has(12), 9);
            String licences = "licence s z till 9;";
            for (char p = 'p'; p <= 'w'; p++) {
                licences += Town.many(6, "licence " + p + " # till 9;", 'b');
            }
            BlissMarket full = Due.told("stock 99;fact a day 1 worth 1;" + Town.many(6, "fact # day 900 worth 1;", 'b') + "fact y day 2 worth 1;fact z day 900 worth 1;"
                + Town.people(8, 0, 0) + Town.many(6, "rule # from a;", 'b') + "rule z from y;" + licences);
            full.days(1);
            String forty = Town.all(full);
            Due.are("the oldest of forty", breach(full, 0), 1, 1, 3, 2);
            Due.is("one more", full.days(1), 1);
            Due.are("it has gone", breach(full, 0), 1, 1, 4, 3);
            full.undo();
            Town.same("it is back", Town.all(full), forty);
            BlissMarket other = Due.told(Town.facts(4, 900, 1) + "rule c from a;rule d from b;" + P + "licence p c till 9;licence p d till 9;");
            other.word(0, 0);
            other.undo();
            other.word(0, 1);
            Due.are("another BREACH in its place", breach(other, 0), 0, 0, 3, 1);
        });
        s.hold(18, "; false, refused (4), when none can be.", () -> {
            BlissMarket x = Due.told(A + P);
            String before = Town.all(x);
            Due.is("none yet", x.undo(), false);
            x.word(0, 0);
            Due.is("a refused one is none", x.undo(), false);
            Due.is("status(4)", x.status(4), 2);
            Town.same("all stays", Town.all(x), before);
            x.days(1);
            Due.is("one", x.undo(), true);
            Due.is("none any more", x.undo(), false);
            Due.is("status(4)", x.status(4), 3);
        });
    }

    private static void seed(Sentences s) {
        s.hold(19, "The seed: true", () -> {
            BlissMarket x = new BlissMarket();
            for (int seed : new int[] {0, 1, MOST, 1 << 30, 63, 64}) {
                Due.is("seed(" + seed + ")", x.seed(seed), true);
                Due.is("has(12)", x.has(12), seed);
            }
            Due.is("status(5)", x.status(5), 0);
        });
        s.hold(19, "; false, refused (5), when it is below 0.", () -> {
            BlissMarket x = new BlissMarket();
            Due.is("seed(-1)", x.seed(-1), false);
            Due.is("seed(least)", x.seed(LEAST), false);
            Due.are("status(5), the seed", new int[] {x.status(5), x.has(12)}, 2, 1);
        });
    }

    private static void kept(Sentences s) {
        String town = "fact a day 1 worth 1;fact b day 900 worth 1;fact c day 2 worth 1;fact d day 900 worth 1;rule d from c;rule b from a;" + P + Q
            + "licence p d till 9;licence q b till 9;";
        s.hold(20, "Of the k-th BREACH that is told as KEPT, from the oldest on: 0 DAY, 1 PERSON, 2 FACT, 3 RULE", () -> {
            BlissMarket x = Due.told(town);
            x.days(2);
            Due.are("the oldest", breach(x, 0), 1, 1, 1, 1);
            Due.are("the next", breach(x, 1), 2, 0, 3, 0);
            BlissMarket most = Due.told(Town.facts(12, 999, 1) + Town.many(15, "rule a from b;") + "rule l from k;" + Town.people(8, 0, 0) + "licence w l till 999;");
            Town.goTo(most, 998);
            most.word(7, 10);
            Due.are("the greatest numbers", breach(most, 0), 998, 7, 11, 15);
        });
        s.hold(20, ". NONE when there is none such, or for others.", () -> {
            BlissMarket x = Due.told(town);
            Due.is("none yet", x.kept(0, 0), NONE);
            x.days(2);
            for (int what = 0; what < 4; what++) {
                Due.are("k", new int[] {x.kept(2, what), x.kept(-1, what), x.kept(40, what), x.kept(MOST, what), x.kept(LEAST, what)},
                    NONE, NONE, NONE, NONE, NONE);
            }
            Due.are("what", new int[] {x.kept(0, 4), x.kept(0, -1), x.kept(1, MOST), x.kept(1, LEAST)}, NONE, NONE, NONE, NONE);
        });
    }
}
