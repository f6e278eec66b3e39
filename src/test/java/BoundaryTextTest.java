import java.io.IOException;

/**
 * Promises 1 to 5 and part I. of the Terms, sentence by sentence: a test of its
 * own for each one that names a boundary case.
 */
public final class BoundaryTextTest {
    private static final int NONE = BlissMarket.NONE;
    private static final String A = Town.A;
    private static final String B = Town.B;
    private static final String P = Town.P;
    private static final String Q = Town.Q;
    private static final int BLANKS = 0x20202020;
    private static final int MOST = Integer.MAX_VALUE;
    private static final int LEAST = Integer.MIN_VALUE;

    private BoundaryTextTest() {
    }

    public static void main(String[] args) throws IOException {
        Sentences s = new Sentences();
        aNewObject(s);
        feed(s);
        end(s);
        capital(s);
        fault(s);
        statements(s);
        licencesAndStock(s);
        tests(s);
        sums(s);
        parts(s);
        results(s);
        namesAndNumbers(s);
        ownWords(s);
        firstFaults(s);
        fault1(s);
        faults2to4(s);
        fault5(s);
        fault6(s);
        s.closePromises(1, 5);
        s.closeTerms("I. A CAPITAL", "II. It is DAY 0");
        s.close("BoundaryTextTest");
    }

    private static void fine(String text, int statements) {
        Due.fine(text, statements);
    }

    private static void wrong(int kind, String marked) {
        Due.fault(kind, marked);
    }

    private static int feedBlanks(BlissMarket x) {
        return x.feed(BLANKS, BLANKS, BLANKS, BLANKS, BLANKS);
    }

    /** An object whose tape has so many bytes: that text, and blanks behind it. */
    private static BlissMarket taped(String text, int bytes) {
        StringBuilder s = new StringBuilder(text);
        while (s.length() < bytes) {
            s.append(' ');
        }
        BlissMarket x = new BlissMarket();
        Due.feed(x, Due.bytes(s.toString()));
        return x;
    }

    // ------------------------------------------------------------ promises 1 to 5

    private static void aNewObject(Sentences s) {
        s.hold(1, "No FACTS, no PEOPLE", () -> {
            BlissMarket x = new BlissMarket();
            for (int what = 0; what <= 11; what++) {
                Due.is("has(" + what + ")", x.has(what), what == 5 ? 20 : 0);
            }
            Due.are("none", new int[] {x.fact(0, 0), x.rule(0, 0), x.person(0, 0), x.letter(0, 0, 0), x.letter(1, 0, 0), x.licence(0, 0),
                x.price(0, 0, 1), x.when(0, 0), x.bliss(0, 0), x.surprise(0, 0, 0), x.follows(1), x.by(0, 0, NONE), x.barred(0, 0, 0),
                x.cheapest(0, 0, 0, 0), x.breach(0), x.kept(0, 0), x.octet(0), x.fault(1), x.seeded(0, 0)},
                NONE, NONE, NONE, NONE, NONE, NONE, NONE, NONE, NONE, NONE, NONE, NONE, NONE, NONE, NONE, NONE, NONE, NONE, NONE);
            Due.are("of nothing", new int[] {x.fault(0), x.follows(0), x.seeded(0, NONE), x.face(0, 0), x.face(0, 1), x.face(0, 2),
                x.face(1, 0), x.rest(0), x.rest(1), x.rest(2), x.rest(3), x.image()}, 0, 0, 0, 1, 0, 0, 0, 1, 0, 0, 20, 3);
            for (int what = 0; what < 6; what++) {
                Due.is("status(" + what + ")", x.status(what), 0);
            }
            Due.is("DAYS go by", x.days(1), 0);
            Due.is("DAY", x.has(6), 1);
        });
        s.hold(1, "the seed is 1", () -> Due.is("has(12)", new BlissMarket().has(12), 1));
        s.hold(1, "`NONE = -1`: None; refused.", () -> {
            BlissMarket x = new BlissMarket();
            Due.are("NONE", new int[] {BlissMarket.NONE, x.has(13), x.days(0)}, -1, -1, -1);
        });
        s.hold(1, "An object is used for at most 512 calls after it has been made", () -> {
            BlissMarket x = new BlissMarket();
            byte[] text = Due.bytes("fact a day 1 worth 5;person p street 0 purse 9;licence p a till 999;");
            Due.feed(x, text);
            int calls = (text.length + 19) / 20 + 1;
            Due.is("capital()", x.capital(), 3);
            calls++;
            for (; calls < 509; calls += 2) {
                Due.is("days(1)", x.days(1), 0);
                Due.is("undo()", x.undo(), true);
            }
            for (; calls < 511; calls++) {
                x.days(1);
            }
            Due.is("the last but one", calls, 511);
            Due.is("the 512th call", x.person(0, 4), 5);
        });
    }

    private static void feed(Sentences s) {
        s.hold(2, "Twenty bytes come behind those on the tape", () -> {
            BlissMarket x = taped("stock 4", 7);
            x.feed(0x323b2020, BLANKS, BLANKS, BLANKS, BLANKS);
            Due.is("capital()", x.capital(), 1);
            Due.is("stock 42", x.has(5), 42);
        });
        s.hold(2, "of each number the highest first", () -> {
            BlissMarket x = new BlissMarket();
            x.feed(0x73746f63, 0x6b203432, 0x3b73746f, 0x636b2037, 0x3b20200a);
            Due.is("capital()", x.capital(), 2);
            Due.is("stock 7", x.has(5), 7);
            int[] odd = {0xff202020, 0x20802020, 0x2020ff20, 0x20202080};
            for (int k = 0; k < 4; k++) {
                x.feed(BLANKS, BLANKS, BLANKS, BLANKS, odd[k]);
                x.capital();
                Due.is("a byte above 127", x.fault(1), 16 + k);
            }
            x.feed(0x20202001, -1, -1, -1, -1);
            x.capital();
            Due.is("the last of the first number", x.fault(1), 3);
            x.feed(BLANKS, LEAST, BLANKS, BLANKS, BLANKS);
            x.capital();
            Due.is("the first of the second number", x.fault(1), 4);
        });
        s.hold(2, ": how many there are", () -> {
            BlissMarket x = new BlissMarket();
            for (int k = 1; k <= 80; k++) {
                Due.is("feed, time " + k, feedBlanks(x), 20 * k);
            }
            Due.is("behind one byte", feedBlanks(taped("", 1)), 21);
        });
        s.hold(2, "NONE, refused (0), if there would be more than 1600", () -> {
            BlissMarket x = taped("stock 6;", 1600);
            Due.is("1620", feedBlanks(x), NONE);
            Due.is("status(0)", x.status(0), 1);
            Due.is("end(1600)", x.end(1600), true);
            Due.is("end(1581)", x.end(1581), true);
            Due.is("1601", x.feed(-1, -1, -1, -1, -1), NONE);
            Due.is("status(0)", x.status(0), 2);
            Due.is("the tape has what it had", x.end(1582), false);
            Due.is("capital()", x.capital(), 1);
            BlissMarket y = taped("stock 6;", 1580);
            Due.is("1600", feedBlanks(y), 1600);
            Due.is("status(0)", y.status(0), 0);
            Due.is("capital()", y.capital(), 1);
            Due.is("an empty tape again", feedBlanks(y), 20);
        });
    }

    private static void end(Sentences s) {
        s.hold(3, "The tape has its first n bytes alone: true", () -> {
            String text = "stock 1;stock 2;x   ";
            int[] n = {20, 16, 15, 8, 0};
            int[] due = {NONE, 2, NONE, 1, 0};
            int[] place = {16, NONE, 15, NONE, NONE};
            for (int k = 0; k < n.length; k++) {
                BlissMarket x = taped(text, 20);
                Due.is("end(" + n[k] + ")", x.end(n[k]), true);
                Due.is("capital()", x.capital(), due[k]);
                Due.is("fault(1)", x.fault(1), place[k]);
                Due.is("status(0)", x.status(0), 0);
            }
            Due.is("end(0) of an empty tape", new BlissMarket().end(0), true);
            BlissMarket twice = taped(text, 20);
            twice.end(8);
            Due.is("what is gone is gone", twice.end(9), false);
            String[] cut = {"stock 12;", "stock;", "fact ab day 0 worth 1;", "stock 1;;"};
            int[] first = {7, 3, 6, 8};
            for (int k = 0; k < cut.length; k++) {
                BlissMarket x = taped(cut[k], 40);
                x.end(first[k]);
                x.capital();
                Due.are("cut in a word or number: " + cut[k], new int[] {x.fault(0), x.fault(1)}, k == 3 ? 0 : 1, k == 3 ? NONE : k == 1 ? 0 : first[k]);
            }
        });
        s.hold(3, "false, refused (0), if it has not so many", () -> {
            BlissMarket x = taped("stock 1;", 8);
            Due.is("end(9)", x.end(9), false);
            Due.is("end(most)", x.end(MOST), false);
            Due.is("status(0)", x.status(0), 2);
            Due.is("the tape stays", x.capital(), 1);
            Due.is("end(1) of an empty tape", new BlissMarket().end(1), false);
        });
        s.hold(3, ", or n is below 0", () -> {
            BlissMarket x = taped("stock 1;", 8);
            Due.is("end(-1)", x.end(-1), false);
            Due.is("end(least)", x.end(LEAST), false);
            Due.is("status(0)", x.status(0), 2);
            Due.is("the tape stays", x.capital(), 1);
        });
    }

    private static void capital(Sentences s) {
        s.hold(4, "The tape (it goes, refused or not) is THE CAPITAL", () -> {
            BlissMarket x = taped("stock 3;", 8);
            Due.is("capital()", x.capital(), 1);
            Due.is("it goes", x.end(1), false);
            Due.is("feed", feedBlanks(x), 20);
            BlissMarket y = taped("stock 3", 7);
            Due.is("capital()", y.capital(), NONE);
            Due.is("it goes when refused, too", y.end(1), false);
            Due.is("feed", feedBlanks(y), 20);
            BlissMarket z = Due.told(A + B + P + Q + "meets p q on 0;rule a from b;");
            Due.are("one of each", new int[] {z.has(0), z.has(1), z.has(2), z.has(3)}, 2, 1, 2, 1);
            Due.is("an empty tape is a CAPITAL", z.capital(), 0);
            Due.are("without anything", new int[] {z.has(0), z.has(1), z.has(2), z.has(3), z.has(4), z.has(5), z.has(8)}, 0, 0, 0, 0, 0, 20, 0);
        });
        s.hold(4, " is THE CAPITAL: how many STATEMENTS", () -> {
            String most = "stock 30;" + Town.facts(12, 0, 9) + Town.people(8, 7, 99) + Town.many(16, "rule b from a;") + Town.many(16, "meets p q on 0;")
                + Town.many(12, "licence p # till 9;") + "price 7;tells all;";
            String[] texts = {most, A + P, "", "rule x", most, B + Q, most + "x", most, P + Q + A + "meets q p on 1;", A + "price 1;tells not all;?", B + P + "licence p b till 3;",
                "stock 3;" + A + B + "rule a from b;" + P, A};
            BlissMarket x = new BlissMarket();
            String before = Town.all(x);
            for (String text : texts) {
                BlissMarket fresh = new BlissMarket();
                Due.feed(fresh, Due.bytes(text));
                int due = fresh.capital();
                Due.feed(x, Due.bytes(text));
                Due.is("capital(), behind others, of " + text, x.capital(), due);
                if (due != NONE) {
                    before = Town.all(fresh);
                }
                Town.same("of none but the latest without a FAULT, behind " + text, Town.all(x), before);
            }
        });
        s.hold(4, "how many STATEMENTS", () -> {
            fine("", 0);
            fine(A, 1);
            fine(A + P + "licence p a till 1;licence p a till 1;price 1;tells all;", 6);
            fine(Town.many(80, "stock 1;"), 80);
        });
        s.hold(4, "NONE, refused (1), with a FAULT (all stays)", () -> {
            BlissMarket x = Due.told("fact a day 0 worth 9;fact b day 2 worth 9;rule b from a;person p street 2 purse 8;person q street 0 purse 1;"
                + "licence p b till 9;licence q b till 1;meets p q on 3;price 2;tells not all;");
            x.seed(77);
            x.back(1, 1);
            x.days(2);
            x.image();
            String before = Town.all(x);
            for (String text : new String[] {"x", "stock 5;fact c day 0 worth 1;person r street 0 purse 0;tells all;price 999;stock",
                A + A, "rule", "stock 100;", "tells [[[[[[[[", "price 5;tells all;price 5;", Town.many(81, "stock 1;")}) {
                int refused = x.status(1);
                Due.feed(x, Due.bytes(text));
                Due.is("capital()", x.capital(), NONE);
                Due.is("status(1)", x.status(1), refused + 1);
                Town.same("all stays", Town.all(x), before);
                Due.is("the seed stays", x.has(12), 77);
            }
            Due.is("its letters", x.letter(0, 0, 0), 1);
            Due.is("its RULE", x.rule(0, 1), 1);
            Due.is("the image", x.octet(1), 2);
            Due.is("undo()", x.undo(), true);
            Due.is("undo()", x.undo(), true);
            Due.is("what was undone", x.licence(1, 1), 1);
        });
        s.hold(4, "Without one DAY 0 begins", () -> {
            BlissMarket x = Due.told(Town.facts(1, 0, 1) + P);
            x.days(5);
            Due.feed(x, Due.bytes("fact k day 0 worth 1;fact l day 0 worth 2;fact m day 9 worth 3;fact n day 1 worth 3;rule m from l;" + P + Q
                + "person r street 0 purse 0;licence q k till 0;licence q l till 0;licence q m till 0;licence r l till 5;licence r m till 0;"
                + "meets p q on 0;meets p r on 0;meets p r on 5;"));
            Due.is("capital()", x.capital(), 16);
            Due.is("DAY", x.has(6), 0);
            Due.are("COMMON FACTS, licences, what follows, MEETINGS", new int[] {x.person(0, 2), x.person(1, 2), x.person(2, 2)}, 7, 0, 1);
            String one = "fact k day 0 worth 1;fact l day 0 worth 2;rule l from k;" + P + "licence p l till 0;";
            for (int time = 0; time < 3; time++) {
                Due.feed(x, Due.bytes(one));
                Due.is("capital()", x.capital(), 5);
                Due.is("a BREACH of that DAY alone is KEPT", x.has(10), 1);
            }
            Due.feed(x, Due.bytes(A + P));
            Due.is("capital()", x.capital(), 2);
            Due.are("nothing of the old one is KEPT", new int[] {x.has(10), x.kept(0, 0), x.person(0, 5)}, 0, NONE, 0);
        });
        s.hold(4, "no ACT can be undone", () -> {
            BlissMarket x = Due.told(A + P);
            x.days(1);
            Due.feed(x, Due.bytes(A + P));
            Due.is("capital()", x.capital(), 2);
            Due.is("ACTS", x.has(11), 0);
            Due.is("undo()", x.undo(), false);
            Due.is("DAY", x.has(6), 0);
        });
        s.hold(4, "; the seed stays", () -> {
            for (int seed : new int[] {0, 5, MOST}) {
                BlissMarket x = new BlissMarket();
                x.seed(seed);
                Due.feed(x, Due.bytes(A + P));
                Due.is("capital()", x.capital(), 2);
                Due.is("the seed", x.has(12), seed);
            }
        });
    }

    private static void fault(Sentences s) {
        s.hold(5, "Of the latest capital(): its FAULT (what 0", () -> {
            BlissMarket x = new BlissMarket();
            String[] texts = {"x", A + A, "rule x", "stock 100", "price ((((((((", "price 1;price 1;"};
            for (int k = 0; k < 6; k++) {
                Due.feed(x, Due.bytes(texts[k]));
                x.capital();
                Due.is("fault(0) of " + texts[k], x.fault(0), k + 1);
            }
            feedBlanks(x);
            x.end(21);
            Due.is("by no other call", x.fault(0), 6);
        });
        s.hold(5, "; 0 without, and ahead of any)", () -> {
            BlissMarket x = new BlissMarket();
            Due.is("ahead of any", x.fault(0), 0);
            Due.feed(x, Due.bytes("x"));
            Due.is("ahead of any", x.fault(0), 0);
            x.capital();
            Due.is("with one", x.fault(0), 1);
            x.capital();
            Due.is("without", x.fault(0), 0);
        });
        s.hold(5, "its place (1; NONE without)", () -> {
            BlissMarket x = new BlissMarket();
            Due.is("ahead of any", x.fault(1), NONE);
            Due.feed(x, Due.bytes("x"));
            x.capital();
            Due.is("the first byte", x.fault(1), 0);
            x.capital();
            Due.is("without", x.fault(1), NONE);
            BlissMarket y = taped("", 1600);
            y.end(1599);
            Due.is("blanks", y.capital(), 0);
            StringBuilder most = new StringBuilder();
            for (int k = 0; k < 1599; k++) {
                most.append('\n');
            }
            Due.fault(most + "x", 1, 1599);
            Due.fault(most.substring(5) + "stock ", 1, 1600);
        });
        s.hold(5, "NONE for another what", () -> {
            BlissMarket x = new BlissMarket();
            Due.feed(x, Due.bytes("x"));
            x.capital();
            Due.are("fault", new int[] {x.fault(2), x.fault(-1), x.fault(MOST), x.fault(LEAST)}, NONE, NONE, NONE, NONE);
        });
    }

    // ------------------------------------------------------------ part I. of the Terms

    private static void statements(Sentences s) {
        s.hold(4, " is a text: { STATEMENT ; } (80 at most)", () -> {
            fine("", 0);
            fine("stock 1;", 1);
            fine(Town.many(79, "stock 1;"), 79);
            fine(Town.many(80, "stock 1;"), 80);
            wrong(6, Town.many(80, "stock 1;") + "^stock 1;");
            wrong(1, "stock 1^");
            wrong(1, "stock 1 ^stock 1;");
            wrong(1, "stock 1;^;");
        });
        s.hold(4, ": fact NAME day N worth N (0 .. 999", () -> {
            Due.is("day 0", Due.told("fact a day 0 worth 0;").fact(0, 0), 0);
            Due.is("day 999", Due.told("fact a day 999 worth 0;").fact(0, 0), 999);
            wrong(4, "fact a day ^1000 worth 0;");
            wrong(4, "fact a day ^9999 worth 0;");
            wrong(1, "fact a day ^-1 worth 0;");
            wrong(1, "fact a ^worth 0 day 0;");
        });
        s.hold(4, ", 0 .. 99;", () -> {
            Due.is("worth 0", Due.told("fact a day 0 worth 0;").fact(0, 1), 0);
            Due.is("worth 99", Due.told("fact a day 0 worth 99;").fact(0, 1), 99);
            wrong(4, "fact a day 0 worth ^100;");
            wrong(4, "fact a day 0 worth ^9999;");
            wrong(1, "fact a day 0 worth ^-1;");
        });
        s.hold(4, "; 12 FACTS)", () -> {
            Due.is("12", Due.told(Town.facts(12, 0, 0)).has(0), 12);
            wrong(6, Town.facts(12, 0, 0) + "^fact m day 0 worth 0;");
        });
        s.hold(4, "rule NAME from NAME { NAME } (a FACT that follows from others", () -> {
            Due.is("from one", Due.told(A + B + "rule a from b;").rule(0, 1), 2);
            BlissMarket x = Due.told(Town.facts(12, 0, 0) + "rule l from a b c d e f g h i j k;rule a from l b c d e f g h i j k;");
            Due.are("from eleven", new int[] {x.rule(0, 0), x.rule(0, 1), x.rule(1, 0), x.rule(1, 1)}, 11, 2047, 0, 4094);
            wrong(1, A + "rule a from ^;");
            wrong(1, A + B + "rule a ^b;");
            wrong(3, A + P + "rule a from ^p;");
            wrong(3, A + P + "rule ^p from a;");
            wrong(3, Town.facts(12, 0, 0) + "rule l from a b c d e f g h i j k ^l;");
        });
        s.hold(4, ", unlike ones", () -> {
            wrong(3, Town.facts(3, 0, 0) + "rule a from b ^b;");
            wrong(3, Town.facts(4, 0, 0) + "rule a from b c d ^b;");
            fine(Town.facts(3, 0, 0) + "rule a from b c;rule a from c b;rule a from b c;", 6);
        });
        s.hold(4, ", not itself", () -> {
            wrong(3, A + "rule a from ^a;");
            wrong(3, A + B + "rule a from b ^a;");
            fine(A + B + "rule a from b;rule b from a;", 4);
        });
        s.hold(4, "; 16 RULES)", () -> {
            Due.is("16", Due.told(A + B + Town.many(16, "rule a from b;")).has(1), 16);
            wrong(6, A + B + Town.many(16, "rule a from b;") + "^rule b from a;");
        });
        s.hold(4, "person NAME street N purse N (0 .. 9", () -> {
            Due.is("street 0", Due.told("person p street 0 purse 1;").person(0, 0), 0);
            Due.is("street 9", Due.told("person p street 9 purse 1;").person(0, 0), 9);
            wrong(4, "person p street ^10 purse 1;");
            wrong(1, "person p ^purse 1 street 1;");
        });
        s.hold(4, ", 0 .. 999; 8 PEOPLE)", () -> {
            Due.is("purse 0", Due.told("person p street 0 purse 0;").person(0, 1), 0);
            Due.is("purse 999", Due.told("person p street 0 purse 999;").person(0, 1), 999);
            wrong(4, "person p street 0 purse ^1000;");
        });
        s.hold(4, "; 8 PEOPLE)", () -> {
            Due.is("8", Due.told(Town.people(8, 0, 0)).has(2), 8);
            wrong(6, Town.people(8, 0, 0) + "^person x street 0 purse 0;");
        });
        s.hold(4, "meets NAME NAME on N (two unlike PEOPLE", () -> {
            fine(P + Q + "meets p q on 0;meets q p on 0;meets p q on 0;", 5);
            wrong(3, P + Q + "meets p ^p on 0;");
            wrong(3, P + Q + "meets q ^q on 0;");
            wrong(1, P + Q + "meets p ^on 0;");
            wrong(3, P + A + "meets p ^a on 0;");
            wrong(3, P + A + "meets ^a p on 0;");
        });
        s.hold(4, "; 0 .. 6;", () -> {
            fine(P + Q + "meets p q on 0;meets p q on 6;", 4);
            wrong(4, P + Q + "meets p q on ^7;");
            wrong(4, P + Q + "meets p q on ^9999;");
        });
        s.hold(4, "; 16 MEETINGS)", () -> {
            Due.is("16", Due.told(P + Q + Town.many(16, "meets p q on 0;")).has(3), 16);
            wrong(6, P + Q + Town.many(16, "meets p q on 0;") + "^meets q p on 0;");
        });
    }

    private static void licencesAndStock(Sentences s) {
        s.hold(4, "licence NAME NAME till N (a PERSON, a FACT", () -> {
            fine(A + P + "licence p a till 0;", 3);
            wrong(3, A + P + "licence ^a p till 0;");
            wrong(3, A + P + "licence p ^p till 0;");
            wrong(3, A + P + "licence ^a a till 0;");
        });
        s.hold(4, ", a DAY 0 .. 999", () -> {
            Due.is("till 0", Due.told(A + P + "licence p a till 0;").licence(0, 0), 0);
            Due.is("till 999", Due.told(A + P + "licence p a till 999;").licence(0, 0), 999);
            wrong(4, A + P + "licence p a till ^1000;");
        });
        s.hold(4, "; the last one of these two counts; no more", () -> {
            BlissMarket x = Due.told(A + B + P + Q + "licence p a till 9;licence p b till 8;licence q a till 7;licence p a till 3;");
            Due.are("till", new int[] {x.licence(0, 0), x.licence(0, 1), x.licence(1, 0), x.licence(1, 1)}, 3, 8, 7, NONE);
            Due.are("three of 20", new int[] {x.has(4), x.has(5)}, 3, 17);
            Due.is("a later one, till later", Due.told(A + P + "licence p a till 0;licence p a till 9;").licence(0, 0), 9);
        });
        s.hold(4, "; no more than there is stock)", () -> {
            fine("stock 2;" + A + B + P + "licence p a till 0;licence p b till 0;", 6);
            wrong(6, "stock 1;" + A + B + P + "licence p a till 0;^licence p b till 0;");
            wrong(6, "stock 0;" + A + P + "^licence p a till 0;");
            fine("stock 1;" + A + P + "licence p a till 0;licence p a till 1;licence p a till 2;", 6);
            String twenty = Town.facts(12, 0, 0) + P + Q + Town.many(12, "licence p # till 0;") + Town.many(8, "licence q # till 0;");
            fine(twenty, 34);
            wrong(6, twenty + "^licence q l till 0;");
        });
        s.hold(4, "price SUM, tells TEST (one each)", () -> {
            fine("price 1;tells all;", 2);
            fine("tells all;price 1;", 2);
            wrong(6, "price 1;tells all;^price 1;");
            wrong(6, "tells all;price 1;^tells all;");
        });
        s.hold(4, "stock N (0 .. 99", () -> {
            Due.is("stock 0", Due.told("stock 0;").has(5), 0);
            Due.is("stock 99", Due.told("stock 99;").has(5), 99);
            wrong(4, "stock ^100;");
        });
        s.hold(4, "; ahead of the first licence", () -> {
            fine(A + P + "stock 5;licence p a till 1;", 4);
            wrong(6, A + P + "licence p a till 1;^stock 5;");
            wrong(6, "stock 5;" + A + P + "licence p a till 1;^stock 5;");
        });
        s.hold(4, "; the last one counts; 20", () -> {
            Due.is("the last one", Due.told("stock 9;stock 0;stock 3;").has(5), 3);
            fine("stock 0;" + A + P + "stock 1;licence p a till 1;", 5);
            wrong(6, "stock 1;" + A + P + "stock 0;^licence p a till 1;");
        });
        s.hold(4, "; 20 without)", () -> {
            BlissMarket x = Due.told("stock 5;");
            x.capital();
            Due.is("without", x.has(5), 20);
            Due.is("less one", Due.told(A + P + "licence p a till 1;").has(5), 19);
        });
    }

    /** Whether p (street 3) tells q (street 8) on DAY 1 the FACT b, of worth 9. */
    private static void tells(String test, boolean due) {
        BlissMarket x = Due.told("fact a day 500 worth 7;fact b day 500 worth 9;person p street 3 purse 0;person q street 8 purse 0;"
            + "meets p q on 1;tells " + test + ";");
        x.word(0, 1);
        x.days(1);
        Due.is("tells " + test, x.person(1, 2) == 2, due);
    }

    private static void tests(Sentences s) {
        s.hold(4, "TEST: BOTH { or BOTH }.", () -> {
            tells("all", true);
            tells("not all or all", true);
            tells("all or not all", true);
            tells("not all or not all", false);
            tells("1=2 or 1=3 or 1=4 or 1=1", true);
            wrong(1, "tells ^or all;");
            wrong(1, "tells all or ^;");
        });
        s.hold(4, "BOTH: FACET { and FACET }.", () -> {
            tells("all and all", true);
            tells("all and not all", false);
            tells("not all and all", false);
            tells("all and all and all and not all", false);
            tells("not all and not all or all", true);
            tells("all or not all and not all", true);
            wrong(1, "tells all and ^;");
            wrong(1, "tells ^and all;");
        });
        s.hold(4, "FACET: not FACET; [ TEST ] ; all; SUM SIGN SUM", () -> {
            tells("not all", false);
            tells("not not all", true);
            tells("not not not all", false);
            tells("not all or all", true);
            tells("[all]", true);
            tells("[all or all] and not all", false);
            tells("not [all and not all]", true);
            tells("not 1=2", true);
            tells("not 1=2 and 1=2", false);
            wrong(1, "tells not ^;");
            wrong(1, "tells [^];");
            wrong(1, "tells 1^;");
            wrong(1, "tells 1<^;");
            wrong(1, "tells ^<1;");
            wrong(1, "tells 1<2^<3;");
        });
        s.hold(4, ", SIGN < or > or = .", () -> {
            tells("8<9", true);
            tells("9<9", false);
            tells("10<9", false);
            tells("8>9", false);
            tells("9>9", false);
            tells("10>9", true);
            tells("8=9", false);
            tells("9=9", true);
            tells("10=9", false);
            wrong(1, "tells 1^!1;");
            wrong(1, "tells 1<^=1;");
        });
    }

    /** What the price is, for a SUM of 0 to 999. */
    private static void sum(String sum, int due) {
        BlissMarket x = Due.told("fact a day 0 worth 7;person p street 3 purse 0;price " + sum + ";");
        Due.is("price " + sum, x.price(0, 0, 5), due);
    }

    private static void sums(Sentences s) {
        s.hold(4, "SUM: PRODUCT { + or - PRODUCT }.", () -> {
            sum("5", 5);
            sum("5+3", 8);
            sum("5-3", 2);
            sum("5-3+1-2+4", 5);
            sum("2*3+4*5-6/2", 23);
            wrong(1, "price ^+1;");
            wrong(1, "price ^-1;");
            wrong(1, "price 1+^;");
            wrong(1, "price 1-^-1;");
        });
        s.hold(4, "PRODUCT: PART { * or / or % PART }.", () -> {
            sum("5*3", 15);
            sum("17/5", 3);
            sum("17%5", 2);
            sum("2*3*4*5", 120);
            sum("1+2*3", 7);
            sum("7-6/3", 5);
            sum("1+7%4", 4);
            wrong(1, "price ^*1;");
            wrong(1, "price 1*^;");
            wrong(1, "price 1*^/1;");
        });
        s.hold(4, "PART: N; worth; day; street; other; left; days; holds; knows; ( SUM ) ; min ( SUM , SUM ) ; max ( SUM , SUM ) .", () -> {
            sum("0", 0);
            sum("999", 999);
            sum("9999-9998", 1);
            sum("worth", 7);
            sum("day", 0);
            sum("street", 3);
            sum("other", 0);
            sum("left", 20);
            sum("days", 5);
            sum("holds", 0);
            sum("knows", 1);
            sum("(5)", 5);
            sum("(1+2)*3", 9);
            sum("min(3,4)", 3);
            sum("min(4,3)", 3);
            sum("min(4,4)", 4);
            sum("max(3,4)", 4);
            sum("max(4,3)", 4);
            sum("max(4,4)", 4);
            sum("max(0-5,0-3)+9", 6);
            sum("min(0-5,0-3)+9", 4);
            sum("min(1+2,2*2)*2", 6);
            wrong(1, "price ^;");
            wrong(1, "price (^);");
            wrong(1, "price min^;");
            wrong(1, "price min ^3,4);");
            wrong(1, "price min(^,4);");
            wrong(1, "price min(3^);");
            wrong(1, "price max(3,4^,5);");
            wrong(1, "price max(3,^);");
            wrong(1, "price ^all;");
            wrong(1, "price ^purse;");
        });
    }

    private static void parts(Sentences s) {
        s.hold(12, "(Of a FACT its worth", () -> {
            BlissMarket x = Due.told("fact a day 9 worth 0;fact b day 9 worth 99;person p street 0 purse 0;price worth;");
            Due.are("of each FACT its own", new int[] {x.price(0, 0, 1), x.price(0, 1, 1)}, 0, 99);
            tells("worth=9", true);
        });
        s.hold(12, "; the DAY;", () -> {
            BlissMarket x = Due.told(A + P + "price day;");
            Due.is("on DAY 0", x.price(0, 0, 9), 0);
            Town.goTo(x, 999);
            Due.is("on DAY 999", x.price(0, 0, 9), 999);
            tells("day=1", true);
        });
        s.hold(12, " of a PERSON the street", () -> {
            BlissMarket x = Due.told(A + "person p street 0 purse 5;person q street 9 purse 5;price street;");
            Due.are("of each PERSON his own", new int[] {x.price(0, 0, 1), x.price(1, 0, 1)}, 0, 9);
            tells("street=3", true);
        });
        s.hold(12, ", how many licences he holds (that are valid)", () -> {
            BlissMarket x = Due.told(Town.facts(3, 500, 1) + P + Q + "licence p a till 0;licence p b till 1;licence q a till 9;price holds;");
            Due.are("on DAY 0", new int[] {x.price(0, 2, 1), x.price(1, 2, 1)}, 2, 1);
            x.days(1);
            Due.are("on DAY 1", new int[] {x.price(0, 2, 1), x.price(1, 2, 1)}, 1, 1);
            x.days(1);
            Due.are("on DAY 2", new int[] {x.price(0, 2, 1), x.price(1, 2, 1)}, 0, 1);
            BlissMarket y = Due.told(Town.facts(12, 500, 1) + P + Town.many(12, "licence p # till 3;") + "price holds;");
            Due.is("all", y.price(0, 0, 1), 12);
            y.back(0, 0);
            Due.is("but one", y.price(0, 0, 1), 11);
        });
        s.hold(12, ", how many FACTS he knows", () -> {
            BlissMarket x = Due.told(Town.facts(12, 1, 1) + P + Q + "licence q a till 1;price knows;");
            Due.are("none", new int[] {x.price(0, 0, 1), x.price(1, 0, 1)}, 0, 0);
            x.days(1);
            Due.are("all, all but one", new int[] {x.price(0, 0, 1), x.price(1, 0, 1)}, 12, 11);
        });
        s.hold(12, "; other is in tells the hearer's street, else 0", () -> {
            tells("other=8", true);
            BlissMarket x = Due.told("fact a day 9 worth 7;person p street 3 purse 0;person q street 8 purse 0;meets p q on 1;tells other=8;price other+5;");
            Due.is("in price", x.price(0, 0, 1), 5);
            x.word(0, 0);
            x.days(1);
            Due.is("told", x.person(1, 2), 1);
            Due.are("in price, behind a MEETING", new int[] {x.price(0, 0, 1), x.price(1, 0, 1), x.cheapest(0, 0, 9, 0)}, 5, 5, 0);
        });
        s.hold(12, "; left is how many licences are in stock", () -> {
            sum("left", 20);
            BlissMarket none = Due.told("stock 0;" + A + P + "price left;");
            Due.is("none", none.price(0, 0, 1), 0);
            Due.is("99", Due.told("stock 99;" + A + P + "price left;").price(0, 0, 1), 99);
            BlissMarket x = Due.told("stock 2;fact a day 9 worth 1;fact b day 9 worth 1;person p street 0 purse 9;price left;");
            Due.is("for 2", x.buy(0, 0, 1), 2);
            Due.is("for 1", x.buy(0, 1, 9), 1);
            Due.is("none is left", x.price(0, 0, 1), 0);
            x.days(1);
            Due.is("one is back", x.price(0, 0, 1), 1);
            tells("left=20", true);
        });
        s.hold(12, ", days in price for how many DAYS, else 0.)", () -> {
            BlissMarket x = Due.told("fact a day 9 worth 1;" + P + Q + "price days;tells days=0;meets p q on 1;");
            Due.are("for 1, for 99", new int[] {x.price(0, 0, 1), x.price(0, 0, 99)}, 1, 99);
            x.word(0, 0);
            x.price(0, 0, 99);
            x.days(1);
            Due.is("else 0", x.person(1, 2), 1);
        });
    }

    private static void results(Sentences s) {
        s.hold(12, "All from the left on", () -> {
            sum("20-5-3", 12);
            sum("20-5+3", 18);
            sum("100/5/2", 10);
            sum("100/5*2", 40);
            sum("7*3%4", 1);
            sum("17%5*3", 6);
            sum("100%30/3", 3);
            sum("9999*9999-9999*100-100", 0);
        });
        s.hold(12, "/ gives the greatest whole number not above", () -> {
            sum("7/2", 3);
            sum("6/2", 3);
            sum("5/2", 2);
            sum("1/2", 0);
            sum("0/2", 0);
            sum("(0-1)/2+10", 9);
            sum("(0-6)/2+10", 7);
            sum("(0-7)/2+10", 6);
            sum("7/(0-2)+10", 6);
            sum("6/(0-2)+10", 7);
            sum("(0-7)/(0-2)+10", 13);
            sum("(0-1)/9999+10", 9);
        });
        s.hold(12, ", % what is left (a less b times that)", () -> {
            sum("7%2", 1);
            sum("6%2", 0);
            sum("1%2", 1);
            sum("(0-7)%3+10", 12);
            sum("(0-6)%3+10", 10);
            sum("7%(0-3)+10", 8);
            sum("6%(0-3)+10", 10);
            sum("(0-7)%(0-3)+10", 9);
            sum("(0-1)%1000", 999);
        });
        s.hold(12, "; by 0 both give 0", () -> {
            sum("5/0+3", 3);
            sum("5%0+3", 3);
            sum("0/0+3", 3);
            sum("0%0+3", 3);
            sum("(0-5)/(2-2)+3", 3);
            sum("(0-5)%(2-2)+3", 3);
            tells("5/(street-3)=0", true);
        });
        s.hold(12, "; each result above 10 to the 6 is that", () -> {
            sum("9999*100-9999*100+1", 1);
            sum("(9999*100+100)-9999*100", 100);
            sum("(9999*100+101)-9999*100", 100);
            sum("1000*1000-9999*100", 100);
            sum("1001*1000-9999*100", 100);
            sum("9999*9999*9999-9999*100", 100);
            sum("(9999*100-(0-101))-9999*100", 100);
            sum("9999*9999+9999-9999*100", 100);
            sum("(0-9999)*9999/(0-1)-9999*100", 100);
            tells("1000*1000=9999*9999", true);
            tells("1000*1000>9999*100+99", true);
            tells("9999*9999*9999*9999*9999>0", true);
        });
        s.hold(12, ", below -10 to the 6 likewise.", () -> {
            sum("9999*100+(0-9999*100-101)+500", 400);
            sum("9999*100+(0-9999*100-100)+500", 400);
            sum("9999*100+(0-9999*100-99)+500", 401);
            sum("(0-1000)*1001+9999*100+500", 400);
            sum("(0-9999)*9999*9999+9999*100+500", 400);
            sum("((0-9999)*9999+(0-5))+9999*100+500", 400);
            tells("(0-1000)*1000=(0-9999)*9999", true);
            tells("(0-1000)*1000<0-9999*100-99", true);
        });
    }

    private static void namesAndNumbers(Sentences s) {
        s.hold(5, "NAMES: 1 to 6 letters", () -> {
            fine("fact a day 0 worth 0;fact abcdef day 0 worth 0;person z street 0 purse 0;person zyxwvu street 0 purse 0;", 4);
            wrong(1, "fact abcdef^g day 0 worth 0;");
            wrong(1, "person abcdef^gh street 0 purse 0;");
            wrong(1, "fact ^day 0 worth 0;");
            wrong(1, "fact ^1 day 0 worth 0;");
            wrong(1, "fact ^A day 0 worth 0;");
            wrong(1, "fact a^A day 0 worth 0;");
            wrong(1, "fact ^` day 0 worth 0;");
            wrong(1, "fact ^{ day 0 worth 0;");
            BlissMarket x = Due.told("fact abcdef day 0 worth 0;fact abcdeg day 0 worth 0;rule abcdeg from abcdef;");
            Due.is("the sixth counts", x.rule(0, 0), 1);
        });
        s.hold(5, ", unlike ones (of all sorts)", () -> {
            wrong(2, A + "fact ^a day 0 worth 0;");
            wrong(2, P + "person ^p street 0 purse 0;");
            wrong(2, A + "person ^a street 0 purse 0;");
            wrong(2, P + "fact ^p day 0 worth 0;");
            fine(A + "fact aa day 0 worth 0;person aaa street 0 purse 0;", 3);
        });
        s.hold(5, ", told ahead of where they are asked", () -> {
            wrong(3, A + "rule a from ^b;" + B);
            wrong(3, B + "rule ^a from b;" + A);
            wrong(3, P + "meets p ^q on 0;" + Q);
            wrong(3, P + "licence p ^a till 0;" + A);
            wrong(3, A + "licence ^p a till 0;" + P);
            wrong(3, "fact a day 0 worth 0;rule ^p from a;" + P);
        });
        s.hold(5, "NUMBERS: 1 to 4 digits", () -> {
            fine("price 0;stock 9;", 2);
            fine("price 9999;stock 0099;", 2);
            fine("stock 0;stock 00;stock 000;stock 0000;", 4);
            wrong(1, "stock 0000^0;");
            wrong(1, "price 1000^0;");
            wrong(1, "price 9999^99999;");
            Due.is("0009 is 9", Due.told("stock 0009;").has(5), 9);
            wrong(4, "stock ^9999;");
        });
        s.hold(5, "Blanks (10, 32) are where one likes", () -> {
            fine("  fact\na \n day  0\n\nworth 1 ;\n", 1);
            fine("price min ( 1 , 2 ) + ( 3 ) * 4;tells [ all ] and 1 < 2;", 2);
            fine("price\nmin(\n1,2)+(3)*4;tells[all]and[all]or\nnot[all]and 1<2;", 2);
            for (int octet : new int[] {0, 9, 11, 13, 31, 33, 127, 160, 255}) {
                Due.fault("stock" + (char) octet + "1;", 1, 5);
                Due.fault((char) octet + "stock 1;", 1, 0);
            }
        });
        s.hold(5, " (words and numbers side by side need one)", () -> {
            wrong(1, "stock^1;");
            wrong(1, "fact a^1 day 0 worth 0;");
            wrong(1, "fact a day^0 worth 0;");
            wrong(1, "fact a day 0^worth 0;");
            wrong(1, "fact a day 0 worth^0;");
            wrong(1, "tells 1<2^and all;");
            wrong(1, "tells not^1<2;");
            wrong(1, "price 1+1^min(1,2);");
            wrong(1, "^facta day 0 worth 0;");
            fine("fact a day 0 worth 0;\nstock\n1\n;", 2);
        });
    }

    private static void ownWords(Sentences s) {
        String list = "fact, day, worth, rule, from, person, street, purse, meets, on, licence, till, price, tells, stock, other, left, days, "
            + "holds, knows, or, and, not, all, min, max";
        s.hold(5, "OWN WORDS, which no NAME is: " + list + ".", () -> {
            for (String word : list.split(", ")) {
                wrong(1, "fact ^" + word + " day 0 worth 0;");
                wrong(1, "person ^" + word + " street 0 purse 0;");
                wrong(1, "rule ^" + word + " from a;");
                wrong(1, A + "rule a from ^" + word + ";");
                wrong(1, "meets ^" + word + " a on 0;");
                wrong(1, A + P + "licence p ^" + word + " till 0;");
            }
        });
        s.hold(5, "OWN WORDS, which no NAME is", () -> {
            for (String word : list.split(", ")) {
                if (word.length() < 6) {
                    fine("fact " + word + "z day 0 worth 0;", 1);
                }
                if (word.length() < 7) {
                    fine("fact z" + word.substring(1) + " day 0 worth 0;", 1);
                }
                if (!word.equals("days") && !word.equals("on") && !word.equals("or")) {
                    fine("fact " + word.substring(0, word.length() - 1) + " day 0 worth 0;", 1);
                }
            }
            fine("fact o day 0 worth 0;person licenc street 0 purse 0;", 2);
        });
    }

    // ------------------------------------------------------------ FAULTS

    private static void firstFaults(Sentences s) {
        s.hold(5, "FAULTS, the first along the text", () -> {
            wrong(4, "fact a day ^1000 worth 100;x");
            wrong(1, "fact a day ^x 1000;");
            wrong(2, A + "fact ^a day 1000 worth 1;");
            wrong(3, A + "rule a from ^b a;");
            wrong(4, "stock ^100 abcdefgh");
            wrong(6, "price 1;^price 12345;");
            wrong(6, "price 1;^price ((((((((1;");
            wrong(5, "price (((((((^(12345;");
            wrong(1, "price (((((((1234^5((;");
            wrong(1, "fact a day 0^illurse");
            wrong(6, "stock 0;" + A + P + "^licence p a till 1000;");
            wrong(6, "stock 0;" + A + P + "^licence p a on");
            wrong(3, "stock 0;" + A + P + "licence p ^b till 1000;");
            wrong(6, Town.facts(12, 0, 0) + "^fact a day 1000 worth 0;");
            wrong(6, Town.people(8, 0, 0) + "^person p street 10 purse 0;");
            wrong(6, A + B + Town.many(16, "rule a from b;") + "^rule a from a;");
            wrong(6, P + Q + Town.many(16, "meets p q on 0;") + "^meets p p on 7;");
        });
    }

    private static void fault1(Sentences s) {
        s.hold(5, "1 the first byte with which no CAPITAL goes on (words and numbers whole, at their first byte", () -> {
            wrong(1, "^facts a day 0 worth 0;");
            wrong(1, "^fac");
            wrong(1, "^a");
            wrong(1, "^0");
            wrong(1, "fact a ^dayday 0");
            wrong(1, "fact a ^1234 0");
            wrong(1, "fact a day ^abcdef");
            wrong(1, "fact a day 0 ^1234");
            wrong(1, "price ^worths;");
            wrong(1, "tells ^notall;");
            wrong(1, "tells all ^andall;");
            wrong(1, "^;");
            wrong(1, "stock 1^,");
        });
        s.hold(5, "1 the first byte with which no CAPITAL goes on", () -> {
            wrong(1, "fact a day ^worth 0;");
            wrong(1, "fact a day 0 worth ^;");
            wrong(1, "fact ^day 0 worth 0;");
            wrong(1, "fact a ^0 worth 0;");
            wrong(1, "fact a day 0 ^0;");
            wrong(1, "person p street ^purse 0;");
            wrong(1, "person p street 0 purse ^;");
            wrong(1, "person p ^0 purse 0;");
            wrong(1, "person p street 0 ^0;");
            wrong(1, P + Q + "meets p q on ^;");
            wrong(1, P + Q + "meets p q ^0;");
            wrong(1, P + Q + "meets ^on 0;");
            wrong(1, A + P + "licence p a till ^;");
            wrong(1, A + P + "licence p a ^0;");
            wrong(1, "stock ^;");
            wrong(1, A + B + "rule a from ^1;");
            wrong(1, A + B + "rule ^;");
            wrong(1, "tells ^;");
            wrong(1, "tells not^;");
        });
        s.hold(5, "; at the text's length, if it ends too soon", () -> {
            String text = A + P + Q + B + "rule a from b;meets p q on 0;licence p a till 0;price min(1,(2))+1;tells not [all] and 1<2 or all;";
            int statements = 0;
            for (int n = 0; n <= text.length(); n++) {
                BlissMarket x = new BlissMarket();
                Due.feed(x, Due.bytes(text.substring(0, n) + " "));
                int got = x.capital();
                if (n > 0 && text.charAt(n - 1) == ';') {
                    statements++;
                }
                if (n == 0 || text.charAt(n - 1) == ';') {
                    Due.is("no FAULT in the first " + n + " bytes", got, statements);
                } else if (n == text.length() || !Character.isLetter(text.charAt(n)) || !Character.isLetter(text.charAt(n - 1))) {
                    Due.are("ends too soon, with " + n, new int[] {got, x.fault(0), x.fault(1)}, NONE, 1, n + 1);
                }
            }
            Due.is("STATEMENTS", statements, 9);
            wrong(1, "stock^");
            wrong(1, "stock 1^");
            wrong(1, "stock 1 \n ^");
            Due.fault("stock 1;stock 1", 1, 15);
        });
        s.hold(5, "; a 7th letter of what is no OWN WORD", () -> {
            wrong(1, "fact abcdef^g");
            wrong(1, "fact licenc^es");
            wrong(1, "licenc^es p a till 0;");
            wrong(1, "person abcdef^ghijklmnopqrstuvwxyz");
            wrong(1, "rule abcdef^g");
            wrong(1, A + "rule a from abcdef^g");
            wrong(1, P + "meets p abcdef^g");
            fine(A + P + "licence p a till 0;", 3);
            wrong(1, "fact ^licence");
            wrong(1, "licence^");
        });
        s.hold(5, ", a 5th digit at itself, whatever may stand there", () -> {
            wrong(1, "fact a day 1234^5");
            wrong(1, "fact a day 0000^0 worth 0;");
            wrong(1, "fact a day 9999^9 worth 0;");
            wrong(1, "price 1234^56789;");
            wrong(1, "1234^5");
            wrong(1, "fact 1234^5");
            wrong(1, "fact a day 0 1234^5");
            wrong(1, "factor^y");
            wrong(1, "stock 1 abcdef^g;");
            wrong(1, "stock abcdef^g;");
            wrong(1, "tells all abcdef^g;");
            wrong(1, "price 1 abcdef^g;");
            wrong(1, A + B + "rule a from b abcdef^g;");
        });
        s.hold(5, "; an OWN WORD where a NAME must be)", () -> {
            wrong(1, "fact ^fact");
            wrong(1, "person ^max street");
            wrong(1, "rule ^from a");
            wrong(1, A + "rule a from ^or");
            wrong(1, P + "meets p ^on 0");
            wrong(1, P + "licence p ^till 0");
            wrong(1, "fact ^licence day 0 worth 0;");
            wrong(1, "stock 0;" + A + P + "licence p ^till 0;");
        });
    }

    private static void faults2to4(Sentences s) {
        s.hold(5, "2 a NAME to be given that is there already, at its first byte", () -> {
            wrong(2, A + "fact ^a");
            wrong(2, A + "\nperson \n ^a street");
            wrong(2, P + Q + A + "fact ^q day 0 worth 0;");
            wrong(2, Town.facts(11, 0, 0) + "fact ^k day 0 worth 0;");
            wrong(2, Town.people(7, 0, 0) + "person ^p street 0 purse 0;");
            wrong(2, "fact abcdef day 0 worth 0;person ^abcdef");
        });
        s.hold(5, "3 a NAME that is none of what is asked", () -> {
            wrong(3, "rule ^a");
            wrong(3, "meets ^a");
            wrong(3, "licence ^a");
            wrong(3, A + "rule a from ^aa");
            wrong(3, "fact aa day 0 worth 0;rule ^a");
            wrong(3, P + "rule ^p from");
            wrong(3, A + "meets ^a");
            wrong(3, P + Q + "licence p ^q");
            wrong(3, A + B + P + "rule a from b ^p;");
        });
        s.hold(5, ", or one that can't be (the same PERSON, a FACT told in that row already, or itself), at its first byte", () -> {
            wrong(3, P + "meets p ^p on 0;");
            wrong(3, Town.people(8, 0, 0) + "meets w ^w on 0;");
            wrong(3, Town.facts(3, 0, 0) + "rule a from b c ^b;");
            wrong(3, Town.facts(3, 0, 0) + "rule a from ^a;");
            wrong(3, Town.facts(12, 0, 0) + "rule l from k ^l;");
            wrong(3, Town.facts(12, 0, 0) + "rule a from l ^l;");
        });
        s.hold(5, "4 a NUMBER that can't be, at its first byte", () -> {
            wrong(4, "fact a day ^1000");
            wrong(4, "fact a day 999 worth ^100");
            wrong(4, "person p street ^10");
            wrong(4, "person p street 9 purse ^1000");
            wrong(4, P + Q + "meets p q on ^7");
            wrong(4, P + A + "licence p a till ^1000");
            wrong(4, "stock ^100");
            wrong(4, "stock ^0100");
            wrong(4, "stock\n ^9999x");
            fine("price 9999;tells 9999>9998;", 2);
        });
    }

    private static void fault5(Sentences s) {
        s.hold(5, "5 the 8th ( [ not that is open at once", () -> {
            fine("price (((((((1)))))));", 1);
            wrong(5, "price (((((((^(1))))))));");
            fine("tells [[[[[[[all]]]]]]];", 1);
            wrong(5, "tells [[[[[[[^[all]]]]]]]];");
            fine("tells not not not not not not not all;", 1);
            wrong(5, "tells not not not not not not not ^not all;");
            fine("tells not [not [not [(1)<2]]];", 1);
            wrong(5, "tells not [not [not [(^(1))<2]]];");
            wrong(5, "tells [[[[[[[^not all]]]]]]];");
            wrong(5, "tells not not not not not not not ^[all];");
            wrong(5, "tells [[[[[[[^(1)<2]]]]]]];");
            fine("tells (((((((1)))))))<(((((((2)))))));", 1);
            wrong(5, "tells 1<(((((((^(2))))))));");
            fine("price " + Town.many(30, "(1)+") + "(1);", 1);
            fine("tells " + Town.many(30, "[all] and ") + "[all];", 1);
            fine("price min(((((((1)))))),((((((2)))))));", 1);
            wrong(5, "price min(((((((1)))))),((((((^(2))))))));");
            wrong(5, "price max(((((((^(");
            fine("price " + Town.many(20, "min(1,2)+") + Town.many(20, "max(1,2)*") + "(((((((1)))))));", 1);
            wrong(5, "price " + Town.many(20, "min(1,2)+") + "(((((((^(1))))))));");
            BlissMarket x = new BlissMarket();
            for (String refused : new String[] {"price (((((((", "tells [[[[[[[", "tells not not not not", "price min((((((1", "price (((((((("}) {
                Due.feed(x, Due.bytes(refused));
                Due.is("capital()", x.capital(), NONE);
                Due.feed(x, Due.bytes("price (((((((1)))))));tells not not not [[[[all]]]];"));
                Due.is("nothing is open behind <" + refused + ">", x.capital(), 2);
            }
        });
        s.hold(5, " (not until its FACET ends), at it", () -> {
            fine("tells not not not not not not not all and not not not not not not not all;", 1);
            fine("tells not not not not not not not all or not all;", 1);
            fine("tells " + Town.many(20, "not all and ") + "not [not [not [not all]]];", 1);
            fine("tells not 1<2 and not [not 1<2 or not 1<2 or not 1<2 or not 1<2 or not 1<2 or not 1<2 or not 1<2];", 1);
            fine("tells not not not not not not (1)<(2);", 1);
            wrong(5, "tells not not not not not not not 1<^(2);");
            wrong(5, "tells not [not all and not not not not not ^not all];");
            wrong(5, "tells not [all and not [all or not [not ^[all]]]];");
        });
    }

    private static void fault6(Sentences s) {
        s.hold(5, "6 one too many of a kind of STATEMENT", () -> {
            wrong(6, Town.facts(12, 0, 0) + "stock 1; ^fact m day 0 worth 0;");
            wrong(6, A + B + Town.many(16, "rule a from b;") + "\n^rule");
            wrong(6, Town.people(8, 0, 0) + A + "^person");
            wrong(6, P + Q + Town.many(16, "meets p q on 1;") + "^meets");
            fine(Town.facts(12, 0, 0) + Town.people(8, 0, 0) + Town.many(16, "rule a from b;") + Town.many(16, "meets p q on 6;"), 52);
        });
        s.hold(5, " (a second price, tells", () -> {
            wrong(6, "price 1;^price");
            wrong(6, "tells all; ^tells");
            wrong(6, "price 1;tells all;^price 1;");
            wrong(6, "price 1;tells all;^tells all;");
        });
        s.hold(5, ", a stock behind a licence", () -> {
            wrong(6, A + P + "licence p a till 0;^stock");
            wrong(6, "stock 9;" + A + P + "licence p a till 0;" + B + "^stock 9;");
            fine("stock 9;" + A + P + "stock 8;licence p a till 0;", 5);
        });
        s.hold(5, ", a licence of two that have none when none is left, too)", () -> {
            String two = "stock 2;" + Town.facts(3, 0, 0) + P + Q + "licence p a till 0;licence q b till 0;";
            fine(two, 8);
            wrong(6, two + "^licence p b till 0;");
            wrong(6, two + " ^licence q a till 0;");
            fine(two + "licence p a till 5;licence q b till 6;", 10);
            wrong(6, two + "licence p a till 5;^licence q c till 6;");
            wrong(6, "stock 0;" + A + P + "^licence p a");
        });
        s.hold(5, ", or the 81st STATEMENT (whatever byte stands there), at its first byte.", () -> {
            String full = Town.many(80, "stock 1;");
            fine(full, 80);
            fine(full + "\n  ", 80);
            for (String next : new String[] {"stock 1;", ";", "x", "0", "12345", "abcdefgh", "?", "\0", "\u00ff", "fact", "(((((((("}) {
                Due.fault(full + next, 6, 640);
                Due.fault(full + " \n" + next, 6, 642);
            }
            wrong(1, Town.many(79, "stock 1;") + "^?");
            wrong(1, Town.many(79, "stock 1;") + "stock 1^");
        });
    }
}
