/** Promises 13 to 20: licences bought and given back, words, DAYS, rumours, undo, the seed, KEPT. */
public final class ActsTest {
    private ActsTest() {
    }

    public static void main(String[] args) {
        buying();
        buyingRefused();
        givingBack();
        words();
        daysGoBy();
        rumoursBySeed();
        undoing();
        theSeed();
        keptOnes();
        Due.close("ActsTest");
    }

    private static void buying() {
        BlissMarket x = Due.told("fact a day 2 worth 9;fact b day 2 worth 4;person p street 0 purse 20;stock 3;price worth+holds;");
        Due.is("price", x.price(0, 0, 3), 9);
        Due.is("buy", x.buy(0, 0, 3), 9);
        Due.is("purse", x.person(0, 1), 11);
        Due.is("till this DAY and n less 1", x.licence(0, 0), 2);
        Due.is("left", x.has(5), 2);
        Due.is("an ACT", x.has(11), 1);
        Due.is("the price is as all is now", x.buy(0, 1, 1), 5);
        Due.is("till", x.licence(0, 1), 0);
        x.days(2);
        Due.is("a VALID licence keeps him from knowing", x.person(0, 2), 2);
        x.days(1);
        Due.is("till it is over", x.person(0, 2), 3);
        BlissMarket y = Due.told("fact a day 2 worth 9;person p street 0 purse 9;price worth;");
        Due.is("all that the purse has", y.buy(0, 0, 99), 9);
        Due.is("till", y.licence(0, 0), 98);
        Due.is("nothing in it", y.person(0, 1), 0);
        BlissMarket z = Due.told("fact a day 2 worth 9;person p street 0 purse 9;licence p a till 0;");
        z.days(1);
        Due.is("again, when one is over", z.buy(0, 0, 2), 0);
        Due.is("till", z.licence(0, 0), 2);
    }

    private static void buyRefused(BlissMarket x, int person, int fact, int n) {
        int before = x.status(2);
        int acts = x.has(11);
        Due.is("buy(" + person + ", " + fact + ", " + n + ")", x.buy(person, fact, n), -1);
        Due.is("refused", x.status(2), before + 1);
        Due.is("no ACT", x.has(11), acts);
    }

    private static void buyingRefused() {
        BlissMarket x = Due.told("fact a day 0 worth 9;fact b day 2 worth 4;fact c day 2 worth 5;person p street 0 purse 4;stock 1;price worth;");
        buyRefused(x, 1, 1, 1);
        buyRefused(x, -1, 1, 1);
        buyRefused(x, 0, 3, 1);
        buyRefused(x, 0, -1, 1);
        buyRefused(x, 0, 0, 1);
        buyRefused(x, 0, 1, 0);
        buyRefused(x, 0, 1, 100);
        buyRefused(x, 0, 1, -1);
        buyRefused(x, 0, 1, Integer.MAX_VALUE);
        buyRefused(x, 0, 2, 1);
        Due.is("buy", x.buy(0, 1, 1), 4);
        buyRefused(x, 0, 1, 1);
        BlissMarket y = Due.told("fact a day 9 worth 9;fact b day 9 worth 4;person p street 0 purse 99;stock 1;");
        Due.is("the last one", y.buy(0, 0, 1), 0);
        buyRefused(y, 0, 1, 1);
        y.back(0, 0);
        Due.is("one is left again", y.buy(0, 1, 1), 0);
        BlissMarket z = Due.told("fact a day 999 worth 9;person p street 0 purse 99;");
        for (int k = 0; k < 33; k++) {
            z.days(30);
        }
        Due.is("DAY", z.has(6), 990);
        buyRefused(z, 0, 0, 11);
        Due.is("till DAY 999", z.buy(0, 0, 10), 0);
        Due.is("licence", z.licence(0, 0), 999);
    }

    private static void givingBack() {
        BlissMarket x = Due.told("fact a day 0 worth 9;fact b day 0 worth 9;person p street 0 purse 4;licence p a till 1;price 1;");
        Due.is("back", x.back(0, 0), true);
        Due.is("no coins for it", x.person(0, 1), 4);
        Due.is("no licence", x.licence(0, 0), -1);
        Due.is("left", x.has(5), 20);
        Due.is("he does not know it yet", x.person(0, 2), 2);
        Due.is("back again", x.back(0, 0), false);
        Due.is("none for b", x.back(0, 1), false);
        Due.is("no PERSON", x.back(1, 0), false);
        Due.is("no PERSON", x.back(-1, 0), false);
        Due.is("no FACT", x.back(0, 2), false);
        Due.is("no FACT", x.back(0, -1), false);
        Due.is("status(2)", x.status(2), 6);
        x.days(1);
        Due.is("now he knows", x.person(0, 2), 3);
        x.undo();
        x.undo();
        x.days(2);
        Due.is("one that is over can't be given back", x.back(0, 0), false);
    }

    private static void words() {
        BlissMarket x = Due.told("fact a day 9 worth 9;fact b day 9 worth 9;fact c day 9 worth 1;fact d day 9 worth 1;rule d from c;rule c from a;"
            + "person p street 0 purse 4;person q street 0 purse 4;licence p b till 1;licence p d till 1;");
        Due.is("three FACTS by a word", x.word(0, 0), 3);
        Due.is("he knows them", x.person(0, 2), 13);
        Due.is("the other one does not", x.person(1, 2), 0);
        Due.are("a BREACH is KEPT", new int[] {x.has(10), x.kept(0, 0), x.kept(0, 1), x.kept(0, 2), x.kept(0, 3)}, 1, 0, 0, 3, 0);
        Due.is("he knows it", x.word(0, 0), -1);
        Due.is("he has a licence", x.word(0, 1), -1);
        Due.is("no PERSON", x.word(2, 0), -1);
        Due.is("no PERSON", x.word(-1, 0), -1);
        Due.is("no FACT", x.word(0, 4), -1);
        Due.is("no FACT", x.word(0, -1), -1);
        Due.is("status(2)", x.status(2), 6);
        Due.is("one ACT", x.has(11), 1);
        Due.is("one alone", x.word(1, 1), 1);
        Due.is("two", x.word(1, 2), 2);
        x.days(2);
        Due.is("the licence is over", x.word(0, 1), 1);
    }

    private static void daysGoBy() {
        BlissMarket x = Due.told("fact a day 1 worth 9;fact b day 9 worth 9;rule b from a;person p street 0 purse 4;person q street 0 purse 4;"
            + "person r street 0 purse 4;licence p b till 5;licence q b till 5;licence r b till 2;licence r a till 2;");
        Due.is("n is 0", x.days(0), -1);
        Due.is("n is -1", x.days(-1), -1);
        Due.is("n is 31", x.days(31), -1);
        Due.is("status(3)", x.status(3), 3);
        Due.is("two BREACHES", x.days(30), 2);
        Due.is("DAY", x.has(6), 30);
        Due.is("one ACT", x.has(11), 1);
        Due.is("no more", x.days(1), 0);
        for (int k = 0; k < 32; k++) {
            Due.is("days(30)", x.days(30), 0);
        }
        Due.is("DAY", x.has(6), 991);
        Due.is("beyond DAY 999", x.days(9), -1);
        Due.is("days(8)", x.days(8), 0);
        Due.is("DAY", x.has(6), 999);
        Due.is("beyond DAY 999", x.days(1), -1);
        Due.is("rumours, too", x.rumours(1), -1);
        Due.is("n is 0", x.rumours(0), -1);
        Due.is("n is 31", x.rumours(31), -1);
        Due.is("status(3)", x.status(3), 8);
    }

    /** Rumours by the document's words, over FACTS that do not follow from one another. */
    private static void rumoursBySeed() {
        BlissMarket x = Due.told("fact a day 900 worth 9;fact b day 900 worth 9;fact c day 900 worth 9;fact d day 900 worth 1;fact e day 900 worth 1;"
            + "person p street 0 purse 4;person q street 0 purse 4;person r street 0 purse 4;licence q a till 900;licence q b till 900;");
        long seed = 1;
        int[] knows = new int[3];
        for (int k = 0; k < 30; k++) {
            long[] draws = new long[3];
            long[] of = {3, 5, 2};
            for (int d = 0; d < 3; d++) {
                seed = (1103515245L * seed + 12345L) % 2147483648L;
                draws[d] = seed / 64 % of[d];
            }
            if (draws[2] == 1 && !(draws[0] == 1 && draws[1] < 2)) {
                knows[(int) draws[0]] |= 1 << (int) draws[1];
            }
            Due.is("rumours(1)", x.rumours(1), 0);
            Due.is("the seed", x.has(12), seed);
            for (int p = 0; p < 3; p++) {
                Due.is("knows", x.person(p, 2), knows[p]);
            }
        }
        Due.is("DAY", x.has(6), 30);
        BlissMarket one = Due.told("fact a day 900 worth 9;fact b day 900 worth 1;rule b from a;person p street 0 purse 4;licence p b till 900;");
        one.seed(5);
        int breaches = one.rumours(30);
        Due.is("a BREACH by a rumour", breaches, 1);
        Due.is("KEPT", one.has(10), 1);
        Due.is("one ACT", one.has(11), 1);
        one.undo();
        Due.is("undone in one", one.has(6), 0);
        BlissMarket twice = Due.told("fact a day 1 worth 9;fact b day 900 worth 1;rule b from a;person p street 0 purse 4;licence p b till 900;");
        Due.is("a BREACH by the DAY itself", twice.rumours(1), 1);
        Due.is("not again", twice.rumours(1), 0);
        BlissMarket nobody = Due.told("fact a day 0 worth 1;");
        Due.is("without PEOPLE", nobody.rumours(3), 0);
        Due.is("no DRAWS", nobody.has(12), 1);
        Due.is("DAYS go by", nobody.has(6), 3);
        BlissMarket nothing = Due.told("person p street 0 purse 0;");
        Due.is("without FACTS", nothing.rumours(3), 0);
        Due.is("no DRAWS", nothing.has(12), 1);
        BlissMarket greatest = Due.told("fact a day 900 worth 9;person p street 0 purse 4;");
        greatest.seed(Integer.MAX_VALUE);
        greatest.rumours(1);
        seed = Integer.MAX_VALUE;
        for (int k = 0; k < 3; k++) {
            seed = (1103515245L * seed + 12345L) % 2147483648L;
        }
        Due.is("the seed", greatest.has(12), seed);
    }

    private static void undoing() {
        BlissMarket x = Due.told("fact a day 3 worth 9;fact b day 9 worth 1;rule b from a;person p street 0 purse 50;price 5;");
        x.buy(0, 1, 20);
        x.word(0, 0);
        x.back(0, 1);
        x.rumours(4);
        Due.is("ACTS", x.has(11), 4);
        int seed = x.has(12);
        Due.is("undo rumours", x.undo(), true);
        Due.is("DAY", x.has(6), 0);
        Due.is("not the seed", x.has(12), seed);
        Due.is("no licence", x.licence(0, 1), -1);
        Due.is("undo back", x.undo(), true);
        Due.is("the licence", x.licence(0, 1), 19);
        Due.is("KEPT", x.has(10), 1);
        Due.is("undo word", x.undo(), true);
        Due.is("he knows nothing", x.person(0, 2), 0);
        Due.is("nothing KEPT", x.has(10), 0);
        Due.is("undo buy", x.undo(), true);
        Due.is("coins", x.person(0, 1), 50);
        Due.is("left", x.has(5), 20);
        Due.is("none to undo", x.undo(), false);
        Due.is("status(4)", x.status(4), 1);
        for (int k = 0; k < 25; k++) {
            x.days(1);
        }
        Due.is("ACTS that can be undone", x.has(11), 20);
        for (int k = 0; k < 20; k++) {
            Due.is("undo", x.undo(), true);
            Due.is("DAY", x.has(6), 24 - k);
        }
        Due.is("not the 21st", x.undo(), false);
        Due.is("DAY", x.has(6), 5);
        BlissMarket y = Due.told("fact a day 0 worth 9;person p street 0 purse 50;licence p a till 2;");
        y.days(5);
        y.undo();
        Due.is("VALID again", y.licence(0, 0), 2);
        Due.is("left", y.has(5), 19);
        Due.is("he does not know", y.person(0, 2), 0);
    }

    private static void theSeed() {
        BlissMarket x = new BlissMarket();
        Due.is("seed(0)", x.seed(0), true);
        Due.is("has(12)", x.has(12), 0);
        Due.is("seed(-1)", x.seed(-1), false);
        Due.is("least", x.seed(Integer.MIN_VALUE), false);
        Due.is("status(5)", x.status(5), 2);
        Due.is("has(12)", x.has(12), 0);
        Due.is("most", x.seed(Integer.MAX_VALUE), true);
        Due.is("has(12)", x.has(12), Integer.MAX_VALUE);
        Due.is("no ACT", x.has(11), 0);
    }

    private static void keptOnes() {
        StringBuilder s = new StringBuilder("stock 99;fact a day 1 worth 1;fact x day 99 worth 1;fact y day 99 worth 1;rule y from x;");
        for (char f = 'b'; f <= 'g'; f++) {
            s.append("fact ").append(f).append(" day 99 worth 1;rule ").append(f).append(" from a;");
        }
        for (char p = 'p'; p <= 'w'; p++) {
            s.append("person ").append(p).append(" street 0 purse 0;");
            for (char f = 'b'; f <= 'g'; f++) {
                s.append("licence ").append(p).append(" ").append(f).append(" till 9;");
            }
        }
        BlissMarket x = Due.told(s.toString());
        Due.are("the first one AHEAD, which KEPT will lose", new int[] {x.breach(0), x.breach(1), x.breach(2), x.breach(3)}, 1, 0, 3, 1);
        Due.is("48 BREACHES", x.days(1), 48);
        Due.is("40 are told", x.has(10), 40);
        for (int k = 0; k < 40; k++) {
            Due.is("DAY", x.kept(k, 0), 1);
            Due.is("PERSON", x.kept(k, 1), (k + 8) / 6);
            Due.is("FACT", x.kept(k, 2), (k + 8) % 6 + 3);
            Due.is("RULE", x.kept(k, 3), (k + 8) % 6 + 1);
        }
        Due.is("none of the first one is told", x.person(0, 5), 0);
        Due.is("four of the second one", x.person(1, 5), 4);
        Due.is("six of the last one", x.person(7, 5), 6);
        Due.are("NONE", new int[] {x.kept(40, 0), x.kept(-1, 0), x.kept(0, 4), x.kept(0, -1)}, -1, -1, -1, -1);
        x.buy(5, 2, 9);
        Due.is("one more, by a word", x.word(5, 1), 2);
        Due.are("the last", new int[] {x.has(10), x.kept(39, 0), x.kept(39, 1), x.kept(39, 2), x.kept(39, 3)}, 40, 1, 5, 2, 0);
        Due.is("the oldest is gone", x.kept(0, 2), 6);
        x.undo();
        Due.are("undone: the oldest, the last", new int[] {x.kept(0, 2), x.kept(39, 1), x.kept(39, 2)}, 5, 7, 8);
        x.undo();
        x.undo();
        Due.is("none", x.has(10), 0);
        Due.is("NONE", x.kept(0, 0), -1);
    }
}
