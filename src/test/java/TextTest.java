/** Promises 1 to 5: a new object, the tape, texts and their FAULTS. */
public final class TextTest {
    private static final String FACT_A = "fact a day 0 worth 1;";
    private static final String FACT_B = "fact b day 0 worth 1;";
    private static final String PERSON_P = "person p street 0 purse 0;";
    private static final String PERSON_Q = "person q street 0 purse 0;";

    private TextTest() {
    }

    public static void main(String[] args) {
        aNewObject();
        theTape();
        goodTexts();
        whatCannotGoOn();
        wordsAndNumbersThatTouch();
        namesThatAreThere();
        namesThatAreNone();
        numbersThatCannotBe();
        tooMuchOpen();
        oneTooMany();
        afterTexts();
        Due.close("TextTest");
    }

    private static void fault(int kind, String marked) {
        Due.fault(kind, marked);
    }

    private static void fine(String text, int statements) {
        Due.fine(text, statements);
    }

    private static String many(int count, String line) {
        StringBuilder s = new StringBuilder();
        for (int k = 0; k < count; k++) {
            s.append(line.replace('#', (char) ('a' + k)));
        }
        return s.toString();
    }

    private static void aNewObject() {
        BlissMarket x = new BlissMarket();
        int[] due = {0, 0, 0, 0, 0, 20, 0, 0, 0, 0, 0, 0, 1, -1};
        for (int what = 0; what < due.length; what++) {
            Due.is("has(" + what + ") of a new object", x.has(what), due[what]);
        }
        Due.is("has(-1)", x.has(-1), -1);
        Due.is("fault(0)", x.fault(0), 0);
        Due.is("fault(1)", x.fault(1), -1);
        Due.is("fault(2)", x.fault(2), -1);
        Due.is("fault(-1)", x.fault(-1), -1);
        Due.is("octet(0)", x.octet(0), -1);
        for (int what = 0; what < 6; what++) {
            Due.is("status(" + what + ")", x.status(what), 0);
        }
    }

    private static void theTape() {
        BlissMarket x = new BlissMarket();
        for (int k = 1; k <= 80; k++) {
            Due.is("feed " + k, x.feed(0x20202020, 0x20202020, 0x20202020, 0x20202020, 0x20202020), 20 * k);
        }
        Due.is("feed 81", x.feed(0, 0, 0, 0, 0), -1);
        Due.is("status(0)", x.status(0), 1);
        Due.is("end(1601)", x.end(1601), false);
        Due.is("end(-1)", x.end(-1), false);
        Due.is("status(0)", x.status(0), 3);
        Due.is("end(1581)", x.end(1581), true);
        Due.is("feed beyond", x.feed(0, 0, 0, 0, 0), -1);
        Due.is("end(1580)", x.end(1580), true);
        Due.is("end(1581)", x.end(1581), false);
        Due.is("feed to the brim", x.feed(0x20202020, 0x20202020, 0x20202020, 0x20202020, 0x20202020), 1600);
        Due.is("end(1600)", x.end(1600), true);
        Due.is("capital of blanks", x.capital(), 0);
        Due.is("the tape is gone", x.end(1), false);
        Due.is("end(0)", x.end(0), true);
        Due.is("bytes, the highest first", x.feed(0x73746f63, 0x6b203432, 0x3b202020, 0x2020200a, 0xff000000), 20);
        Due.is("end(16)", x.end(16), true);
        Due.is("capital of stock 42", x.capital(), 1);
        Due.is("has(5)", x.has(5), 42);
        Due.is("a byte above 127", x.feed(0xff202020, 0x20202020, 0x20202020, 0x20202020, 0x20202020), 20);
        Due.is("capital", x.capital(), -1);
        Due.is("its place", x.fault(1), 0);
        Due.is("status(0)", x.status(0), 6);
    }

    private static void goodTexts() {
        fine("", 0);
        fine(" \n \n", 0);
        fine("stock 0;stock 99 ; stock\n0007;", 3);
        fine(FACT_A + FACT_B + "rule a from b;rule b from a;rule a from b;" + PERSON_P + PERSON_Q + "meets p q on 6;meets q p on 0;", 9);
        fine("fact aaaaaa day 999 worth 99;person zzzzzz street 9 purse 999;licence zzzzzz aaaaaa till 999;", 3);
        fine("price worth+day-street*other/left%days-holds+knows;tells all;", 2);
        fine("price min(1,max(2,3))-(4);", 1);
        fine("tells not not all and[1<2 or 2>1]and 1=1or all;".replace("1or", "1 or"), 1);
        fine("tells (1)+2<((3));", 1);
        fine("price\n9999;tells\n[[all]];", 2);
        fine(FACT_A + "fact fac day 0 worth 0;fact facts day 0 worth 0;fact licenc day 0 worth 0;", 4);
        fine(many(80, "stock 1;"), 80);
        fine(many(80, "stock 1;") + " \n ", 80);
    }

    private static void whatCannotGoOn() {
        fault(1, "^x");
        fault(1, "^;");
        fault(1, "^1;");
        fault(1, "^day 1;");
        fault(1, "fact^");
        fault(1, "fact ^");
        fault(1, "fact  \n^");
        fault(1, "fact ^1");
        fault(1, "fact ^;");
        fault(1, "fact a day 0 worth 1^");
        fault(1, "fact a day 0 worth 1\n^");
        fault(1, FACT_A + "^;");
        fault(1, "fact a ^worth 1 day 0;");
        fault(1, "fact a day ^worth");
        fault(1, "fact a day ^b");
        fault(1, "fact a day 0 worth 1 ^2;");
        fault(1, "fact ^A day 1 worth 1;");
        fault(1, FACT_A + "^\tstock 1;");
        fault(1, FACT_A + "^\r\nstock 1;");
        fault(1, "factor^y");
        fault(1, "licenc^es p a till 1;");
        fault(1, "licence^");
        fault(1, "fact ^licence");
        fault(1, "fact ^day day 0 worth 1;");
        fault(1, "person ^all street");
        fault(1, "fact sevena^b");
        fault(1, "fact a day 1234^5 worth 1;");
        fault(1, "fact 1234^5");
        fault(1, "fact a day abcdef^g");
        fault(1, "stock 5 abcdef^gh;");
        fault(1, "stock 5 1234^56;");
        fault(1, "fact a day^5 worth 1;");
        fault(1, "fact a day 5^worth 1;");
        fault(1, "stock^5;");
        fault(1, "tells 1<2^or all;");
        fault(1, "fact a^5 day 0 worth 1;");
        fault(1, FACT_A + "rule a from^");
        fault(1, FACT_A + "rule a from ^;");
        fault(1, FACT_A + FACT_B + "rule a from b ^from;");
        fault(1, FACT_A + FACT_B + "rule a from b^");
        fault(1, FACT_A + "rule a ^a;");
        fault(1, PERSON_P + PERSON_Q + "meets p q ^till 0;");
        fault(1, PERSON_P + PERSON_Q + "meets p ^on 0;");
        fault(1, FACT_A + PERSON_P + "licence p a ^on 0;");
        fault(1, "price ^;");
        fault(1, "price ^all;");
        fault(1, "price 1^<2;");
        fault(1, "price 1+^;");
        fault(1, "price (1^;");
        fault(1, "price (1^]");
        fault(1, "price 1^)");
        fault(1, "price min ^1");
        fault(1, "price min(1^)");
        fault(1, "price max(1,2^,");
        fault(1, "price ^-1;");
        fault(1, "price ^a;");
        fault(1, "tells 1^;");
        fault(1, "tells 1<2^<3;");
        fault(1, "tells 1<2 +^");
        fault(1, "tells 1<^all;");
        fault(1, "tells not ^;");
        fault(1, "tells [all^;");
        fault(1, "tells [all^)");
        fault(1, "tells (^all);");
        fault(1, "tells (1^<2);");
        fault(1, "tells all ^not all;");
        fault(1, "tells all ^all;");
        fault(1, "tells all or ^;");
        fault(1, "tells 1^!2;");
    }

    /** What touches is a FAULT at its first byte, which is ahead of a 7th letter or 5th digit in it. */
    private static void wordsAndNumbersThatTouch() {
        // a word behind a number
        fault(1, "fact a day 0^worth 1;");
        fault(1, "fact a day 0^illurs worth 1;");
        fault(1, "fact a day 0^illurse worth 1;");
        fault(1, "fact a day 0^illurse\0\0");
        fault(1, "fact a day 999^abcdefghij");
        fault(1, "fact a day 0 worth 1^licence;");
        fault(1, "fact a day 0 worth 1^licences;");
        fault(1, "stock 5^stock 6;");
        fault(1, "stock 5^abcdefg;");
        fault(1, "price 1+2^min(1,2);");
        fault(1, "price 1+2^minimum(1,2);");
        fault(1, "tells 1<2^and all;");
        fault(1, "tells 1<2^andandand all;");
        // a number behind a word
        fault(1, "fact^5");
        fault(1, "fact^12345");
        fault(1, "fact a^1 day 0 worth 1;");
        fault(1, "fact a^12345 day 0 worth 1;");
        fault(1, "fact a day^1234 worth 1;");
        fault(1, "fact a day^12345 worth 1;");
        fault(1, "licence^1");
        fault(1, "licence^123456789");
        fault(1, "stock^99;");
        fault(1, "stock^99999;");
        fault(1, "price worth^1;");
        fault(1, "price worth^10000;");
        fault(1, "tells not^1<2;");
        fault(1, "tells not^12345<2;");
        fault(1, FACT_A + FACT_B + "rule a from b^1;");
        fault(1, FACT_A + FACT_B + "rule a from b^12345;");
        // what is ahead of what touches comes first
        fault(1, "fact a day 1234^5abcdefg");
        fault(1, "fact abcdef^g12345");
        fault(1, "^x12345");
        fault(1, "^1abcdefg");
        fault(1, "^day12345");
        fault(2, FACT_A + "fact ^a12345");
        fault(3, FACT_A + "rule ^b12345");
        fault(4, "fact a day ^1000abcdefg");
        fault(6, "price 1;^price12345;");
        // a blank or a sign between them is enough, and the 7th letter or 5th digit is told again
        fault(1, "fact a day 0 illurs^e worth 1;");
        fault(1, "fact a day 0\nillurs^e worth 1;");
        fault(1, "fact a day 0^;illurse");
        fault(1, "fact 1234^5");
        fault(1, "price (1234^5);");
        fault(1, "price 1+abcdef^g;");
        fine("price min(1,2)+worth*(day)-3;", 1);
    }

    private static void namesThatAreThere() {
        fault(2, FACT_A + "fact ^a");
        fault(2, FACT_A + "person ^a street");
        fault(2, PERSON_P + "fact ^p day 0 worth 1;");
        fault(2, PERSON_P + PERSON_Q + "person ^q");
        fault(2, "fact abcdef day 0 worth 1;fact abcdeg day 0 worth 1;fact ^abcdef 12345");
    }

    private static void namesThatAreNone() {
        fault(3, "rule ^a");
        fault(3, FACT_A + "rule a from ^a");
        fault(3, FACT_A + "rule a from ^b");
        fault(3, FACT_A + FACT_B + "rule a from b ^b;");
        fault(3, FACT_A + FACT_B + "rule a from b ^a;");
        fault(3, FACT_A + PERSON_P + "rule a from ^p;");
        fault(3, FACT_A + PERSON_P + "rule ^p from a;");
        fault(3, "rule ^aa from");
        fault(3, PERSON_P + "meets p ^p");
        fault(3, PERSON_P + "meets ^q p on 1;");
        fault(3, PERSON_P + FACT_A + "meets p ^a on 1;");
        fault(3, PERSON_P + FACT_A + "licence ^a p till 1;");
        fault(3, PERSON_P + FACT_A + "licence p ^p till 1;");
        fault(3, "stock 0;" + PERSON_P + FACT_A + "licence p ^b till 1;");
    }

    private static void numbersThatCannotBe() {
        fault(4, "fact a day ^1000 worth 1;");
        fault(4, "fact a day ^1000^".replace("1000^", "1000") + "worth");
        fault(4, "fact a day 0 worth ^100;");
        fault(4, "person p street ^10 purse 0;");
        fault(4, "person p street 9 purse ^1000;");
        fault(4, PERSON_P + PERSON_Q + "meets p q on ^7;");
        fault(4, PERSON_P + FACT_A + "licence p a till ^1000;");
        fault(4, "stock ^100;");
        fault(4, "stock ^0100;");
    }

    private static void tooMuchOpen() {
        fine("price (((((((1)))))));", 1);
        fault(5, "price (((((((^(1))))))));");
        fine("tells not not not not not not not all;", 1);
        fault(5, "tells not not not not not not not ^not all;");
        fine("tells [[[[[[[all]]]]]]];", 1);
        fault(5, "tells [[[[[[[^[all]]]]]]]];");
        fine("tells not [not [not [(1)<2 and (2)<3]]] or not all;", 1);
        fault(5, "tells not [not [not [((1)<2]]]".replace("((1)", "(^(1)"));
        fine("price min(1,min(1,min(1,min(1,min(1,min(1,min(1,2)))))));", 1);
        fault(5, "price min(1,min(1,min(1,min(1,min(1,min(1,min(1,min^(1,2))))))));");
        fine("price " + many(8, "(1)+") + "1;", 1);
        fine("price " + many(8, "min(1,2)+") + "1;", 1);
        fine("tells " + many(9, "not all and ") + "not [all];", 1);
        fine("tells " + many(8, "[not (1)<2] or ") + "all;", 1);
        fine("tells [not [not [not all or not all] and not all] and not [all]];", 1);
        fault(1, "price (((((((1^(");
        fault(5, "tells 1<(((((((^(");
        fault(5, "price 1+(((((((^(");
        fault(5, "price 1*(((((((^(");
        fault(5, "tells all or not not not not not not not ^not");
        fault(5, "tells all and [[[[[[[^[");
        fault(5, "price min(((((((1)))))),((((((^(");
    }

    private static void oneTooMany() {
        String facts = many(12, "fact # day 0 worth 0;");
        fine(facts, 12);
        fault(6, facts + " ^fact");
        fault(6, facts + "^fact a day 0 worth 1;");
        String rules = facts + many(16, "rule a from b;");
        fine(rules, 28);
        fault(6, rules + "^rule x");
        String people = many(8, "person # street 0 purse 0;");
        fine(people, 8);
        fault(6, people + "^person z street 0 purse 0;");
        String meetings = people + many(16, "meets a b on 0;");
        fine(meetings, 24);
        fault(6, meetings + "^meets a b on 0;");
        fault(6, "price 1;stock 2; ^price 1;");
        fault(6, "tells all;^tells all;");
        String one = FACT_A + FACT_B + PERSON_P;
        fault(6, one + "licence p a till 0;^stock 100;");
        fine("stock 1;" + one + "licence p a till 0;licence p a till 5;", 6);
        fault(6, "stock 1;" + one + "licence p a till 0;^licence p b 7");
        fault(6, "stock 0;" + one + "^licence p a till 5;");
        fault(6, "stock 0;" + one + "^licence p a");
        fault(1, "stock 0;" + one + "licence p ^");
        fault(6, many(80, "stock 1;") + "^stock 1;");
        fault(6, many(80, "stock 1;") + " ^?");
        fault(6, many(80, "stock 1;") + "\n^abcdefghij");
        fault(6, many(80, "stock 1;") + "^;");
        String full = people + many(3, "fact x# day 0 worth 0;")
            + "licence a xa till 1;licence a xb till 1;licence a xc till 1;licence b xa till 1;licence b xb till 1;"
            + "licence b xc till 1;licence c xa till 1;licence c xb till 1;licence c xc till 1;licence d xa till 1;"
            + "licence d xb till 1;licence d xc till 1;licence e xa till 1;licence e xb till 1;licence e xc till 1;"
            + "licence f xa till 1;licence f xb till 1;licence f xc till 1;licence g xa till 1;licence g xb till 1;";
        fine(full, 31);
        fault(6, full + "^licence g xc till 1;");
        fine(full + "licence g xb till 2;", 32);
    }

    private static void afterTexts() {
        BlissMarket x = Due.told("fact a day 0 worth 9;fact b day 3 worth 9;person p street 2 purse 8;licence p b till 9;");
        Due.is("seed", x.seed(77), true);
        Due.is("days(2)", x.days(2), 0);
        Due.feed(x, Due.bytes("fact q day 0 worth 1;nonsense;"));
        Due.is("a fault", x.capital(), -1);
        Due.is("fault(0)", x.fault(0), 1);
        Due.is("fault(1)", x.fault(1), 27);
        Due.is("status(1)", x.status(1), 1);
        Due.is("the tape is gone", x.end(1), false);
        Due.is("all stays: FACTS", x.has(0), 2);
        Due.is("all stays: letter", x.letter(0, 0, 0), 1);
        Due.is("all stays: DAY", x.has(6), 2);
        Due.is("all stays: ACTS", x.has(11), 1);
        Due.is("all stays: knows", x.person(0, 2), 1);
        Due.is("all stays: licence", x.licence(0, 1), 9);
        Due.feed(x, Due.bytes("fact q day 0 worth 1;fact r day 0 worth 1;person s street 1 purse 5;licence s q till 0;rule q from r;"));
        Due.is("another CAPITAL", x.capital(), 5);
        Due.is("fault(0)", x.fault(0), 0);
        Due.is("fault(1)", x.fault(1), -1);
        Due.is("DAY 0", x.has(6), 0);
        Due.is("DAY 0 has begun", x.person(0, 2), 3);
        Due.is("a BREACH of DAY 0 is KEPT", x.has(10), 1);
        Due.is("coins", x.has(8), 5);
        Due.is("no ACT can be undone", x.has(11), 0);
        Due.is("undo()", x.undo(), false);
        Due.is("the seed stays", x.has(12), 77);
        Due.is("an empty tape", x.capital(), 0);
        Due.is("nobody", x.has(2), 0);
        Due.is("no licences", x.has(4), 0);
        Due.is("nothing KEPT", x.has(10), 0);
        Due.is("status(1)", x.status(1), 1);
    }
}
