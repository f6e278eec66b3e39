/** Promises 6 to 12: what there is, SUMS and TESTS, and how a DAY begins. */
public final class WorldTest {
    static final String TOWN = "fact salt day 0 worth 5;fact tax day 1 worth 8;fact war day 3 worth 20;fact lovely day 2 worth 9;"
        + "rule war from salt tax;rule lovely from war;rule war from lovely;"
        + "person ann street 1 purse 40;person bob street 2 purse 10;person cy street 1 purse 0;"
        + "meets ann bob on 0;meets bob cy on 2;stock 5;licence bob tax till 4;licence ann war till 9;"
        + "price worth/2+days-holds;tells worth<15 or street=other;";

    private WorldTest() {
    }

    public static void main(String[] args) {
        whatThereIs();
        wrongOnes();
        sums();
        parts();
        tests();
        tellsSees();
        howADayBegins();
        validity();
        textsOneBehindAnother();
        Due.close("WorldTest");
    }

    private static void whatThereIs() {
        BlissMarket x = Due.told(TOWN);
        int[] has = {4, 3, 3, 2, 2, 3, 0, 1, 50, 0, 0, 0, 1};
        for (int what = 0; what < has.length; what++) {
            Due.is("has(" + what + ")", x.has(what), has[what]);
        }
        int[] lovely = {12, 15, 22, 5, 12, 25};
        for (int k = 0; k < 6; k++) {
            Due.is("letter(0, 3, " + k + ")", x.letter(0, 3, k), lovely[k]);
        }
        Due.is("letter(1, 2, 0)", x.letter(1, 2, 0), 3);
        Due.is("letter(1, 2, 1)", x.letter(1, 2, 1), 25);
        Due.is("letter(1, 2, 2)", x.letter(1, 2, 2), 0);
        Due.is("letter(1, 2, 5)", x.letter(1, 2, 5), 0);
        int[] war = {3, 20, 0, 1, 2, 8};
        int[] salt = {0, 5, 3, 0, 0, 4};
        for (int what = 0; what < 6; what++) {
            Due.is("fact(2, " + what + ")", x.fact(2, what), war[what]);
            Due.is("fact(0, " + what + ")", x.fact(0, what), salt[what]);
        }
        Due.is("rule(0, 0)", x.rule(0, 0), 2);
        Due.is("rule(0, 1)", x.rule(0, 1), 3);
        Due.is("rule(2, 1)", x.rule(2, 1), 8);
        int[] bob = {2, 10, 1, 2, 0, 0};
        for (int what = 0; what < 6; what++) {
            Due.is("person(1, " + what + ")", x.person(1, what), bob[what]);
        }
        Due.is("licence(1, 1)", x.licence(1, 1), 4);
        Due.is("licence(0, 2)", x.licence(0, 2), 9);
        Due.is("licence(0, 1)", x.licence(0, 1), -1);
        Due.is("days(1)", x.days(1), 1);
        int[] later = {4, 3, 3, 2, 2, 3, 1, 3, 50, 8, 1, 1, 1};
        for (int what = 0; what < later.length; what++) {
            Due.is("on DAY 1 has(" + what + ")", x.has(what), later[what]);
        }
        Due.is("ann has a BREACH", x.person(0, 5), 1);
        Due.is("bob has none", x.person(1, 5), 0);
        Due.is("bob's BLISS", x.person(1, 4), 8);
        Due.is("two know war", x.fact(2, 2), 2);
        BlissMarket y = Due.told("fact a day 0 worth 1;fact b day 0 worth 1;fact c day 0 worth 1;rule c from a;rule b from a c;");
        Due.are("needed for", new int[] {y.fact(0, 5), y.fact(1, 5), y.fact(2, 5)}, 6, 0, 2);
        Due.is("one holds war", x.fact(2, 3), 1);
    }

    private static void wrongOnes() {
        BlissMarket x = Due.told(TOWN);
        int none = BlissMarket.NONE;
        Due.are("NONE", new int[] {x.has(13), x.has(-1), x.letter(2, 0, 0), x.letter(-1, 0, 0), x.letter(0, 4, 0), x.letter(0, -1, 0),
            x.letter(1, 3, 0), x.letter(0, 0, 6), x.letter(0, 0, -1)}, none, none, none, none, none, none, none, none, none);
        Due.are("NONE", new int[] {x.fact(4, 0), x.fact(-1, 0), x.fact(0, 6), x.fact(0, -1), x.rule(3, 0), x.rule(-1, 0), x.rule(0, 2),
            x.rule(0, -1), x.person(3, 0), x.person(-1, 0), x.person(0, 6), x.person(0, -1)},
            none, none, none, none, none, none, none, none, none, none, none, none);
        Due.are("NONE", new int[] {x.licence(3, 0), x.licence(-1, 0), x.licence(0, 4), x.licence(0, -1), x.price(3, 0, 1), x.price(-1, 0, 1),
            x.price(0, 4, 1), x.price(0, -1, 1), x.price(0, 0, 0), x.price(0, 0, 100), x.price(0, 0, -5)},
            none, none, none, none, none, none, none, none, none, none, none);
        int most = Integer.MAX_VALUE;
        int least = Integer.MIN_VALUE;
        Due.are("NONE", new int[] {x.fact(most, 0), x.fact(least, 0), x.person(most, 0), x.person(least, 0), x.rule(most, most),
            x.letter(least, most, least), x.licence(most, least), x.price(0, 0, most), x.has(most)},
            none, none, none, none, none, none, none, none, none);
        Due.is("nothing is refused by asking", x.status(2), 0);
    }

    private static void sum(String sum, int due) {
        BlissMarket x = Due.told("fact a day 0 worth 7;person p street 3 purse 0;price " + sum + ";");
        Due.is("price " + sum, x.price(0, 0, 5), due);
    }

    private static void sums() {
        sum("12", 12);
        sum("0012", 12);
        sum("1+2*3", 7);
        sum("(1+2)*3", 9);
        sum("20-5-3", 12);
        sum("100/5/2", 10);
        sum("100/(5/2)", 50);
        sum("7*3%4", 1);
        sum("17%5*3", 6);
        sum("7/2", 3);
        sum("(0-7)/2+100", 96);
        sum("7/(0-2)+100", 96);
        sum("(0-7)/(0-2)+100", 103);
        sum("(0-7)%3+100", 102);
        sum("7%(0-3)+100", 98);
        sum("(0-7)%(0-3)+100", 99);
        sum("6%(0-3)+100", 100);
        sum("5/0+3", 3);
        sum("5%0+3", 3);
        sum("9999*9999/2000", 500);
        sum("(0-9999)*9999/2000+600", 100);
        sum("9999*9999+9999-9999*100", 100);
        sum("0-9999*9999-9999+9999*100+200", 100);
        sum("min(3,4)+max(30,40)", 43);
        sum("min(4,3)*max(40,30)", 120);
        sum("min(0-1,1)+10", 9);
        sum("min(max(1,2),max(3,4))", 2);
        sum("2-5", 0);
        sum("998+1", 999);
        sum("999+1", 999);
        sum("9999", 999);
        BlissMarket x = Due.told("fact a day 0 worth 7;person p street 3 purse 0;");
        Due.is("without a price", x.price(0, 0, 99), 0);
        BlissMarket y = Due.told("fact a day 0 worth 7;person p street 3 purse 0;price days;");
        Due.are("for 1 DAY, for 99", new int[] {y.price(0, 0, 1), y.price(0, 0, 99)}, 1, 99);
    }

    private static void part(String part, int due) {
        BlissMarket x = Due.told("fact a day 0 worth 7;fact b day 2 worth 9;fact c day 50 worth 1;person p street 3 purse 0;"
            + "person q street 8 purse 0;stock 9;licence p b till 30;licence q a till 30;licence q c till 30;price " + part + ";");
        x.days(4);
        Due.is("price of " + part, x.price(0, 1, 5), due);
    }

    private static void parts() {
        part("worth", 9);
        part("day", 4);
        part("street", 3);
        part("other", 0);
        part("left", 6);
        part("days", 5);
        part("holds", 1);
        part("knows", 1);
    }

    /** Whether p, in street 3, tells q, in street 8, the FACT b of worth 9 on DAY 1. */
    private static void test(String test, boolean due) {
        BlissMarket x = Due.told("fact a day 0 worth 7;fact b day 1 worth 9;person p street 3 purse 0;person q street 8 purse 0;stock 9;"
            + "licence q b till 0;licence p a till 30;meets p q on 1;tells " + test + ";");
        x.word(0, 1);
        Due.is("ahead of it", x.person(1, 2), 1);
        BlissMarket y = Due.told("fact a day 500 worth 7;fact b day 500 worth 9;person p street 3 purse 0;person q street 8 purse 0;stock 9;"
            + "licence q b till 0;licence p a till 30;meets p q on 1;tells " + test + ";");
        y.word(0, 1);
        y.days(1);
        Due.is("tells " + test, y.person(1, 2) == 2, due);
    }

    private static void tests() {
        test("all", true);
        test("not all", false);
        test("not not all", true);
        test("not not not all", false);
        test("not not not not all", true);
        test("1<2", true);
        test("2<2", false);
        test("2>2", false);
        test("3>2", true);
        test("2=2", true);
        test("2=3", false);
        test("all or not all and not all", true);
        test("[all or not all] and not all", false);
        test("not all and all", false);
        test("not [all and not all]", true);
        test("1=2 or 1=3 or 1=1", true);
        test("1=1 and 2=2 and 3=4", false);
        test("not 1=2 and not 3=4", true);
        test("1+2*3=7", true);
    }

    private static void tellsSees() {
        test("worth=9", true);
        test("day=1", true);
        test("street=3", true);
        test("other=8", true);
        test("left=8", true);
        test("days=0", true);
        test("holds=1", true);
        test("knows=1", true);
        test("street=other", false);
        BlissMarket x = Due.told("fact a day 99 worth 1;fact b day 99 worth 2;fact c day 99 worth 3;person p street 4 purse 0;person q street 5 purse 0;"
            + "meets p q on 1;price days+other;tells days=0 and [worth=1 or worth=3];");
        for (int f = 0; f < 3; f++) {
            x.word(0, f);
        }
        Due.is("price", x.price(0, 0, 9), 9);
        x.days(1);
        Due.is("each FACT by its own worth", x.person(1, 2), 5);
        Due.is("no other in price", x.price(0, 0, 9), 9);
    }

    private static void howADayBegins() {
        BlissMarket x = Due.told("fact a day 0 worth 1;fact b day 0 worth 2;fact c day 9 worth 4;fact d day 9 worth 8;"
            + "rule d from c;rule c from a b;person p street 0 purse 0;person q street 0 purse 0;person r street 0 purse 0;"
            + "licence p a till 2;licence q c till 3;licence q d till 3;licence r a till 9;licence r c till 0;meets q r on 0;meets r p on 0;");
        Due.is("p does not learn what he has a licence for", x.person(0, 2) & 1, 0);
        Due.is("q infers, licence or not, RULES again and again", x.person(1, 2), 15);
        Due.is("q's BREACHES", x.person(1, 5), 2);
        Due.are("the first", new int[] {x.kept(0, 0), x.kept(0, 1), x.kept(0, 2), x.kept(0, 3)}, 0, 1, 2, 1);
        Due.are("the second", new int[] {x.kept(1, 0), x.kept(1, 1), x.kept(1, 2), x.kept(1, 3)}, 0, 1, 3, 0);
        Due.is("r is told by q all but a and c, and infers c from neither", x.person(2, 2), 10);
        Due.is("p is told by r what r was just told", x.person(0, 2), 10);
        Due.is("BLISS of p", x.person(0, 4), 1);
        Due.is("BLISS of all", x.has(9), 2);
        x.days(3);
        Due.is("a licence is over", x.person(0, 2), 15);
        Due.is("BREACHES of DAY 0 alone", x.has(10), 2);
        BlissMarket y = Due.told("fact a day 1 worth 1;fact b day 99 worth 2;rule b from a;person p street 0 purse 0;person q street 0 purse 0;"
            + "licence q a till 99;licence q b till 99;meets p q on 1;tells worth=2;");
        y.days(1);
        Due.is("what is licensed is not told", y.person(1, 2), 0);
        y.back(1, 0);
        y.days(7);
        Due.is("q learned a himself, then b with a licence for it", y.person(1, 2), 3);
        Due.is("which is a BREACH", y.has(10), 1);
        Due.is("of the DAY that was the next", y.kept(0, 0), 2);
        BlissMarket z = Due.told("fact a day 99 worth 1;fact b day 99 worth 2;fact c day 99 worth 3;rule c from b;person p street 0 purse 0;"
            + "person q street 0 purse 0;person r street 0 purse 0;licence q c till 50;meets q r on 1;meets p q on 1;meets q r on 1;");
        z.word(0, 1);
        z.days(1);
        Due.is("he infers behind the MEETING", z.person(1, 2), 6);
        Due.is("and has a BREACH by it", z.kept(0, 1), 1);
        Due.is("MEETINGS as they are told", z.person(2, 2), 6);
        z.days(6);
        Due.is("not on DAY 7", z.has(6), 7);
    }

    private static void validity() {
        BlissMarket x = Due.told("fact a day 0 worth 1;person p street 0 purse 0;stock 1;licence p a till 1;");
        Due.is("till DAY 1", x.licence(0, 0), 1);
        Due.is("none left", x.has(5), 0);
        x.days(1);
        Due.is("VALID on that DAY", x.licence(0, 0), 1);
        Due.is("he does not know", x.person(0, 2), 0);
        x.days(1);
        Due.is("not VALID any more", x.licence(0, 0), -1);
        Due.is("back in stock", x.has(5), 1);
        Due.is("none VALID", x.has(4), 0);
        Due.is("no licence of it", x.fact(0, 3), 0);
        Due.is("he knows", x.person(0, 2), 1);
        BlissMarket y = Due.told("fact a day 0 worth 1;person p street 0 purse 0;licence p a till 9;licence p a till 0;");
        Due.is("the last one counts", y.licence(0, 0), 0);
        Due.is("one licence", y.has(4), 1);
        Due.is("of 20", y.has(5), 19);
    }

    /** Nothing of a text stays in a later one, of a FAULT or not. */
    private static void textsOneBehindAnother() {
        String less = "fact a day 0 worth 7;fact b day 0 worth 7;person p street 3 purse 9;person q street 3 purse 9;";
        BlissMarket x = Due.told(TOWN);
        for (int k = 0; k < 3; k++) {
            Due.feed(x, Due.bytes(k == 1 ? TOWN + "tells" : less));
            x.capital();
            Due.are("has", new int[] {x.has(0), x.has(1), x.has(2), x.has(3), x.has(4), x.has(5), x.has(8)}, 2, 0, 2, 0, 0, 20, 18);
            Due.is("no price", x.price(0, 0, 9), 0);
            Due.is("they know all", x.person(1, 2), 3);
        }
        Due.feed(x, Due.bytes("tells not [[not [1<((2"));
        Due.is("a FAULT where much is open", x.capital(), -1);
        Due.feed(x, Due.bytes(less + "licence q a till 3;back;"));
        Due.is("a FAULT behind a licence", x.capital(), -1);
        Due.feed(x, Due.bytes("stock 1;" + less + "price 5;tells 1=2;licence q b till 0;price 5;"));
        Due.is("a second price", x.capital(), -1);
        Due.feed(x, Due.bytes("stock 1;" + less + "licence q b till 0;meets p q on 1;tells not not not not not not not 1=2;price 5;"));
        Due.is("none of these now", x.capital(), 9);
        Due.is("price", x.price(0, 0, 9), 5);
        Due.is("the TEST has nothing of the SUM", x.days(1), 0);
    }
}
