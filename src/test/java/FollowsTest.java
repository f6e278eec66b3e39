/** Promises 25 to 31: what follows, whom to tell, faces, and where buying comes to rest. */
public final class FollowsTest {
    private static final int NONE = BlissMarket.NONE;

    private FollowsTest() {
    }

    public static void main(String[] args) {
        following();
        rowsOfRules();
        barring();
        cheapestOnes();
        seeding();
        faces();
        resting();
        Due.close("FollowsTest");
    }

    private static String facts(int count) {
        StringBuilder s = new StringBuilder();
        for (int k = 0; k < count; k++) {
            s.append("fact ").append((char) ('a' + k)).append(" day ").append(k).append(" worth ").append(k + 1).append(";");
        }
        return s.toString();
    }

    private static void following() {
        BlissMarket x = Due.told(facts(5) + "rule e from d;rule d from c b;rule c from a;");
        Due.are("follows", new int[] {x.follows(0), x.follows(1), x.follows(2), x.follows(3), x.follows(8), x.follows(31), x.follows(12)},
            0, 5, 2, 31, 24, 31, 28);
        Due.are("NONE", new int[] {x.follows(32), x.follows(-1), x.follows(33), x.follows(Integer.MIN_VALUE)}, NONE, NONE, NONE, NONE);
        BlissMarket chain = Due.told(facts(12) + "rule l from k;rule k from j;rule j from i;rule i from h;rule h from g;rule g from f;rule f from e;"
            + "rule e from d;rule d from c;rule c from b;rule b from a;");
        Due.is("again and again", chain.follows(1), 4095);
        Due.is("and who knows infers so", chain.person(0, 2), NONE);
        Due.is("eleven RULES", chain.by(1, 11, NONE), 11);
        Due.is("the first", chain.by(1, 11, 0), 10);
        Due.is("the last", chain.by(1, 11, 10), 0);
        Due.is("no more", chain.by(1, 11, 11), NONE);
    }

    private static void rowsOfRules() {
        BlissMarket x = Due.told(facts(6) + "rule e from d;rule f from a;rule d from c b;rule c from a;rule c from f;rule d from f;");
        Due.is("of the row 1 3 5 0 needed are 1 5 0", x.by(1, 4, NONE), 3);
        Due.are("by", new int[] {x.by(1, 4, 0), x.by(1, 4, 1), x.by(1, 4, 2), x.by(1, 4, 3)}, 1, 5, 0, NONE);
        Due.are("each FACT by the RULE that gave it first", new int[] {x.by(33, 2, NONE), x.by(33, 2, 0)}, 1, 3);
        BlissMarket two = Due.told(facts(5) + "rule c from a;rule d from b;rule e from c d;rule e from d;");
        Due.are("both are needed", new int[] {two.by(3, 4, NONE), two.by(3, 4, 0), two.by(3, 4, 1), two.by(3, 4, 2)}, 3, 0, 1, 2);
        Due.are("one of them", new int[] {x.by(1, 0, NONE), x.by(1, 0, 0)}, 0, NONE);
        Due.are("it does not follow", new int[] {x.by(2, 4, NONE), x.by(2, 4, 0), x.by(0, 0, NONE)}, NONE, NONE, NONE);
        Due.are("NONE", new int[] {x.by(64, 0, NONE), x.by(-1, 0, NONE), x.by(1, 6, NONE), x.by(1, -1, NONE), x.by(1, 4, -2),
            x.by(1, 4, Integer.MAX_VALUE)}, NONE, NONE, NONE, NONE, NONE, NONE);
    }

    private static void barring() {
        BlissMarket x = Due.told(facts(5) + "rule e from a b;rule e from c d;rule e from a d;");
        Due.are("a and c, the least bits of like ones", new int[] {x.barred(15, 4, 0), x.barred(15, 4, 1)}, 2, 5);
        Due.are("it counts for nothing among them", new int[] {x.barred(31, 4, 0), x.barred(31, 4, 1)}, 2, 5);
        Due.are("a and d", new int[] {x.barred(11, 4, 0), x.barred(11, 4, 1)}, 1, 1);
        Due.are("d", new int[] {x.barred(13, 4, 0), x.barred(13, 4, 1)}, 1, 8);
        Due.are("it does not follow", new int[] {x.barred(6, 4, 0), x.barred(6, 4, 1), x.barred(16, 4, 0), x.barred(0, 0, 0)}, 0, 0, 0, 0);
        Due.are("nothing gives it", new int[] {x.barred(31, 0, 0), x.barred(31, 0, 1)}, 0, 0);
        Due.are("NONE", new int[] {x.barred(32, 4, 0), x.barred(-1, 4, 0), x.barred(1, 5, 0), x.barred(1, -1, 0), x.barred(1, 4, 2),
            x.barred(1, 4, -1)}, NONE, NONE, NONE, NONE, NONE, NONE);
        BlissMarket y = Due.told(facts(12) + "rule l from a;rule l from b;rule l from c;rule l from d;rule l from e;rule l from f;rule l from g;"
            + "rule l from h;rule l from i;rule l from j;rule l from k;");
        Due.are("all of them", new int[] {y.barred(4095, 11, 0), y.barred(4095, 11, 1)}, 11, 2047);
    }

    private static void cheapestOnes() {
        String text = "fact a day 0 worth 40;fact b day 1 worth 9;fact c day 2 worth 9;fact d day 0 worth 1;rule d from a b;rule d from a c;"
            + "person p street 0 purse 0;person q street 2 purse 0;licence q a till 3;price worth+days*street+holds;";
        BlissMarket x = Due.told(text);
        Due.are("b and c cost less than a", new int[] {x.cheapest(0, 3, 2, 0), x.cheapest(0, 3, 2, 1)}, 18, 6);
        Due.are("c is not COMMON", new int[] {x.cheapest(0, 3, 1, 0), x.cheapest(0, 3, 1, 1)}, 9, 2);
        Due.are("it does not follow", new int[] {x.cheapest(0, 3, 0, 0), x.cheapest(0, 3, 0, 1)}, 0, 0);
        Due.are("what he holds is free", new int[] {x.cheapest(1, 3, 999, 0), x.cheapest(1, 3, 999, 1)}, 0, 1);
        x.back(1, 0);
        Due.are("for 7 DAYS", new int[] {x.cheapest(1, 3, 999, 0), x.cheapest(1, 3, 999, 1)}, 46, 6);
        Due.are("NONE", new int[] {x.cheapest(2, 3, 0, 0), x.cheapest(-1, 3, 0, 0), x.cheapest(0, 4, 0, 0), x.cheapest(0, -1, 0, 0),
            x.cheapest(0, 3, -1, 0), x.cheapest(0, 3, 1000, 0), x.cheapest(0, 3, 0, 2), x.cheapest(0, 3, 0, -1)},
            NONE, NONE, NONE, NONE, NONE, NONE, NONE, NONE);
        BlissMarket y = Due.told("fact a day 0 worth 18;fact b day 1 worth 9;fact c day 2 worth 9;fact d day 0 worth 1;rule d from a b;rule d from a c;"
            + "person p street 0 purse 0;price worth;");
        Due.are("of like ones the least bits, not the fewest", new int[] {y.cheapest(0, 3, 9, 0), y.cheapest(0, 3, 9, 1)}, 18, 1);
        BlissMarket free = Due.told("fact a day 0 worth 9;fact b day 1 worth 9;fact c day 2 worth 9;rule c from a;rule c from b;person p street 0 purse 0;");
        Due.are("all for nothing", new int[] {free.cheapest(0, 2, 9, 0), free.cheapest(0, 2, 9, 1), free.cheapest(0, 0, 9, 1)}, 0, 3, 0);
        BlissMarket z = Due.told("fact a day 0 worth 9;fact b day 1 worth 9;fact c day 2 worth 18;fact d day 0 worth 1;rule d from a c;rule d from b c;"
            + "person p street 0 purse 0;stock 0;price worth;");
        Due.are("a and b are less bits than c", new int[] {z.cheapest(0, 3, 9, 0), z.cheapest(0, 3, 9, 1)}, 18, 3);
    }

    private static void seeding() {
        String people = "person p street 0 purse 0;person q street 0 purse 0;person r street 0 purse 0;person s street 0 purse 0;person t street 0 purse 0;";
        BlissMarket x = Due.told(people + "meets q p on 0;meets q r on 1;meets s t on 1;meets t s on 2;meets r s on 3;tells not all;");
        Due.are("three by today are not enough", new int[] {x.seeded(0, NONE), x.seeded(0, 0)}, NONE, NONE);
        Due.are("p, q and s by DAY 1, and not q, which is over", new int[] {x.seeded(1, NONE), x.seeded(1, 0), x.seeded(1, 1), x.seeded(1, 2),
            x.seeded(1, 3)}, 3, 0, 1, 3, NONE);
        Due.are("q and s by DAY 7", new int[] {x.seeded(7, NONE), x.seeded(7, 0), x.seeded(7, 1), x.seeded(7, 2)}, 2, 1, 3, NONE);
        Due.are("q by DAY 8", new int[] {x.seeded(8, NONE), x.seeded(8, 0), x.seeded(8, 1)}, 1, 1, NONE);
        Due.are("NONE", new int[] {x.seeded(-1, NONE), x.seeded(41, NONE), x.seeded(8, -2), x.seeded(8, Integer.MAX_VALUE)}, NONE, NONE, NONE, NONE);
        BlissMarket y = Due.told("person p street 0 purse 0;person q street 0 purse 0;person r street 0 purse 0;person s street 0 purse 0;"
            + "meets q p on 1;meets r s on 1;meets p q on 1;meets s r on 1;");
        Due.are("the first by PEOPLE, not the least bits", new int[] {y.seeded(1, NONE), y.seeded(1, 0), y.seeded(1, 1)}, 2, 0, 2);
        BlissMarket z = Due.told("person p street 0 purse 0;person q street 0 purse 0;person r street 0 purse 0;person s street 0 purse 0;"
            + "meets p s on 1;meets s p on 1;meets p q on 1;meets p r on 2;meets q p on 2;meets r p on 3;meets q s on 4;meets s q on 5;");
        Due.are("p", new int[] {z.seeded(2, NONE), z.seeded(2, 0)}, 1, 0);
        BlissMarket w = Due.told("person p street 0 purse 0;person q street 0 purse 0;person r street 0 purse 0;person s street 0 purse 0;"
            + "meets s r on 1;meets q p on 1;meets q s on 1;meets s q on 1;");
        Due.are("p and s come ahead of q and r", new int[] {w.seeded(1, NONE), w.seeded(1, 0), w.seeded(1, 1)}, 2, 0, 3);
        Due.is("four by today", w.seeded(0, NONE), NONE);
        StringBuilder eight = new StringBuilder();
        for (char p = 'p'; p <= 'w'; p++) {
            eight.append("person ").append(p).append(" street 0 purse 0;");
        }
        for (char p = 'v'; p >= 'p'; p--) {
            eight.append("meets w ").append(p).append(" on 6;");
        }
        BlissMarket last = Due.told(eight.toString());
        Due.are("the last one", new int[] {last.seeded(6, NONE), last.seeded(6, 0), last.seeded(5, NONE)}, 1, 7, NONE);
        BlissMarket nobody = Due.told("fact a day 0 worth 1;");
        Due.are("without PEOPLE", new int[] {nobody.seeded(0, NONE), nobody.seeded(40, NONE), nobody.seeded(0, 0), nobody.seeded(41, NONE)},
            0, 0, NONE, NONE);
        BlissMarket all = Due.told("person p street 0 purse 0;person q street 0 purse 0;person r street 0 purse 0;");
        Due.are("all three by today", new int[] {all.seeded(0, NONE), all.seeded(0, 2)}, 3, 2);
        BlissMarket late = Due.told("person p street 0 purse 0;person q street 0 purse 0;meets p q on 5;");
        Due.is("40 DAYS", late.seeded(40, NONE), 1);
        Due.is("by DAY 4", late.seeded(4, NONE), 2);
        Due.is("by DAY 5", late.seeded(5, NONE), 1);
        late.days(5);
        Due.is("that of today is over", late.seeded(6, NONE), 2);
        Due.is("that of the next week", late.seeded(7, NONE), 1);
    }

    private static void faces() {
        BlissMarket x = Due.told("fact a day 0 worth 5;fact b day 0 worth 5;fact c day 9 worth 7;rule c from a b;rule b from c;person p street 0 purse 0;");
        Due.are("BLISS 0: both, so c, too", new int[] {x.face(0, 0), x.face(0, 1), x.face(0, 2)}, 1, 7, 7);
        Due.are("BLISS 5: a, or b, or b and c", new int[] {x.face(5, 0), x.face(5, 1), x.face(5, 2)}, 3, 0, 7);
        Due.are("BLISS 10: nothing", new int[] {x.face(10, 0), x.face(10, 1), x.face(10, 2)}, 1, 0, 0);
        Due.are("no such BLISS", new int[] {x.face(7, 0), x.face(7, 1), x.face(7, 2)}, 0, 0, 0);
        Due.are("NONE", new int[] {x.face(-1, 0), x.face(0, 3), x.face(0, -1)}, NONE, NONE, NONE);
        x.days(9);
        Due.are("c is COMMON", new int[] {x.face(7, 0), x.face(12, 0), x.face(12, 1), x.face(12, 2), x.face(5, 0), x.face(5, 1)}, 0, 2, 0, 3, 1, 6);
        BlissMarket all = Due.told(facts(12));
        Due.are("4096 sets, by a: half of them", new int[] {all.face(0, 0), all.face(0, 1), all.face(0, 2), all.face(1, 2)}, 2048, 1, 4095, 4094);
    }

    private static void resting() {
        BlissMarket x = Due.told("fact a day 0 worth 10;fact b day 0 worth 30;fact c day 9 worth 90;person p street 0 purse 22;person q street 1 purse 50;"
            + "licence p a till 0;licence p b till 0;licence q a till 0;licence q b till 0;stock 0;price 5+worth/2;".replace("stock 0;", ""));
        Due.are("all is licensed", new int[] {x.rest(0), x.rest(1), x.rest(2), x.rest(3)}, 1, 0, 0, 16);
        x.back(0, 0);
        x.back(0, 1);
        x.back(1, 0);
        x.back(1, 1);
        Due.are("each buys b; then a has no gain", new int[] {x.rest(0), x.rest(1), x.rest(2), x.rest(3)}, 2, 2, 40, 18);
        Due.are("nothing is bought by asking", new int[] {x.has(4), x.has(8), x.has(11)}, 0, 72, 4);
        Due.are("NONE", new int[] {x.rest(4), x.rest(-1)}, NONE, NONE);
        BlissMarket y = Due.told("fact a day 0 worth 10;fact b day 0 worth 10;fact c day 0 worth 10;person p street 0 purse 7;person q street 1 purse 50;"
            + "stock 6;licence p a till 0;licence p b till 0;licence p c till 0;licence q a till 0;licence q b till 0;licence q c till 0;price 3+holds;");
        y.back(0, 0);
        y.back(0, 1);
        y.back(0, 2);
        y.back(1, 0);
        y.back(1, 1);
        y.back(1, 2);
        Due.are("p buys for 3 and 4, q for 3, 4 and 5", new int[] {y.rest(0), y.rest(1), y.rest(2), y.rest(3)}, 4, 5, 19, 1);
        BlissMarket z = Due.told("fact a day 0 worth 10;fact b day 0 worth 10;person p street 0 purse 9;person q street 1 purse 9;stock 3;"
            + "licence p a till 0;licence p b till 0;licence q a till 0;price left;");
        z.back(0, 0);
        z.back(0, 1);
        z.back(1, 0);
        Due.are("for 3, 2 and 1, till none is left", new int[] {z.rest(0), z.rest(1), z.rest(2), z.rest(3)}, 3, 3, 6, 0);
        BlissMarket first = Due.told("fact a day 0 worth 10;fact b day 0 worth 12;fact c day 0 worth 12;person p street 0 purse 5;stock 3;"
            + "licence p a till 0;licence p b till 0;licence p c till 0;price 5*(worth/12)+1;");
        first.back(0, 0);
        first.back(0, 1);
        first.back(0, 2);
        Due.are("a, since the purse has not the 6 for b", new int[] {first.rest(0), first.rest(1), first.rest(2)}, 2, 1, 1);
        BlissMarket free = Due.told("fact a day 0 worth 1;fact b day 0 worth 0;person p street 0 purse 0;licence p a till 0;licence p b till 0;");
        free.back(0, 0);
        free.back(0, 1);
        Due.are("for nothing, but no gain of 0", new int[] {free.rest(0), free.rest(1), free.rest(2), free.rest(3)}, 2, 1, 0, 19);
        BlissMarket scarce = Due.told("fact a day 0 worth 10;fact b day 0 worth 10;person p street 0 purse 9;person q street 1 purse 9;stock 4;"
            + "licence p a till 0;licence p b till 0;licence q a till 0;licence q b till 9;price 1;");
        scarce.back(0, 0);
        scarce.back(0, 1);
        scarce.back(1, 0);
        Due.are("three are left, and three bought", new int[] {scarce.rest(0), scarce.rest(1), scarce.rest(3)}, 3, 3, 0);
        BlissMarket few = Due.told("fact a day 0 worth 10;fact b day 0 worth 10;fact c day 900 worth 10;person p street 0 purse 9;stock 2;"
            + "licence p a till 0;licence p b till 0;price 1;");
        few.back(0, 0);
        few.back(0, 1);
        few.buy(0, 2, 99);
        Due.are("one is left for two", new int[] {few.rest(0), few.rest(1), few.rest(2), few.rest(3)}, 2, 1, 1, 0);
        BlissMarket one = Due.told("fact a day 0 worth 30;fact b day 0 worth 20;person p street 0 purse 8;stock 2;"
            + "licence p a till 0;licence p b till 0;price 2+5*(worth/30);");
        one.back(0, 0);
        one.back(0, 1);
        Due.are("a for 7 has the greatest gain, then b for 2 is too dear", new int[] {one.rest(1), one.rest(2)}, 1, 7);
        BlissMarket late = Due.told("fact a day 993 worth 30;fact b day 999 worth 20;person p street 0 purse 8;licence p a till 995;");
        for (int k = 0; k < 33; k++) {
            late.days(30);
        }
        late.days(3);
        late.back(0, 0);
        Due.is("till DAY 999", late.rest(1), 1);
        late.undo();
        late.days(1);
        late.back(0, 0);
        Due.is("not beyond", late.rest(1), 0);
        BlissMarket week = Due.told("fact a day 0 worth 50;person p street 0 purse 99;licence p a till 0;price days;");
        week.back(0, 0);
        Due.is("for 7 DAYS", week.rest(2), 7);
    }
}
