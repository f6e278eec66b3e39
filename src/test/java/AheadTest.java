/** Promises 21 to 24: DAYS AHEAD. */
public final class AheadTest {
    private AheadTest() {
    }

    public static void main(String[] args) {
        whenOneLearns();
        firstBreaches();
        blissAhead();
        surprises();
        lastDays();
        Due.close("AheadTest");
    }

    private static void whenOneLearns() {
        BlissMarket x = Due.told("fact a day 0 worth 9;fact b day 5 worth 9;fact c day 50 worth 9;fact d day 40 worth 9;fact e day 41 worth 9;"
            + "person p street 0 purse 4;person q street 0 purse 4;licence q a till 3;licence q b till 6;licence p b till 30;"
            + "meets p q on 1;meets q p on 1;tells not worth=9;rule c from d;");
        Due.is("he knows it", x.when(0, 0), 0);
        Due.is("when the licence is over", x.when(1, 0), 4);
        Due.is("likewise", x.when(1, 1), 7);
        Due.is("the other one's", x.when(0, 1), 31);
        Due.is("40 DAYS AHEAD", x.when(0, 3), 40);
        Due.is("by a RULE, then", x.when(0, 2), 40);
        Due.is("not 41", x.when(0, 4), -1);
        Due.is("no ACT by asking", x.has(11), 0);
        Due.is("nor a DAY", x.has(6), 0);
        x.days(3);
        Due.is("this DAY, if he knows it", x.when(0, 0), 3);
        Due.is("within 40 now", x.when(0, 4), 41);
        Due.are("NONE", new int[] {x.when(2, 0), x.when(-1, 0), x.when(0, 5), x.when(0, -1)}, -1, -1, -1, -1);
    }

    private static void firstBreaches() {
        BlissMarket x = Due.told("fact a day 2 worth 9;fact b day 90 worth 9;fact c day 5 worth 9;rule b from c;rule b from a;person p street 0 purse 4;"
            + "person q street 0 purse 4;licence p b till 30;licence p a till 30;licence q b till 30;");
        Due.are("breach", new int[] {x.breach(0), x.breach(1), x.breach(2), x.breach(3), x.breach(4), x.breach(-1)}, 2, 1, 1, 1, -1, -1);
        Due.is("nothing is KEPT by asking", x.has(10), 0);
        Due.is("on DAY 2", x.days(2), 1);
        Due.are("the next one, not that one", new int[] {x.breach(0), x.breach(1), x.breach(2), x.breach(3)}, 5, 0, 1, 0);
        x.days(3);
        Due.is("none", x.breach(0), -1);
        BlissMarket y = Due.told("fact a day 41 worth 9;fact b day 90 worth 9;rule b from a;person p street 0 purse 4;licence p b till 99;");
        Due.is("not 41 DAYS AHEAD", y.breach(0), -1);
        y.days(1);
        Due.is("but 40", y.breach(0), 41);
        y.days(30);
        Due.is("as long as the licence is VALID", y.breach(0), 41);
        BlissMarket z = Due.told("fact a day 10 worth 9;fact b day 90 worth 9;rule b from a;person p street 0 purse 4;licence p b till 9;");
        Due.is("when it is over, there is none", z.breach(0), -1);
    }

    private static void blissAhead() {
        BlissMarket x = Due.told("fact a day 0 worth 5;fact b day 3 worth 8;fact c day 40 worth 20;person p street 0 purse 4;person q street 0 purse 4;"
            + "licence p a till 10;licence p b till 5;licence p c till 99;");
        Due.are("bliss", new int[] {x.bliss(0, 0), x.bliss(0, 2), x.bliss(0, 3), x.bliss(0, 5), x.bliss(0, 6), x.bliss(0, 11), x.bliss(0, 39),
            x.bliss(0, 40)}, 5, 5, 13, 13, 5, 0, 0, 20);
        Due.is("q knows all", x.bliss(1, 40), 0);
        Due.are("NONE", new int[] {x.bliss(0, 41), x.bliss(0, -1), x.bliss(2, 0), x.bliss(-1, 0)}, -1, -1, -1, -1);
        Due.is("DAY 0 still", x.has(6), 0);
    }

    private static void surprises() {
        BlissMarket x = Due.told("fact a day 3 worth 5;fact b day 40 worth 5;person p street 0 purse 4;person q street 0 purse 4;licence q a till 5;");
        Due.are("surprise", new int[] {x.surprise(3, 0, 2), x.surprise(3, 0, 3), x.surprise(2, 0, 5), x.surprise(2, 0, 6), x.surprise(1, 0, 3),
            x.surprise(0, 0, 40), x.surprise(3, 1, 39), x.surprise(3, 1, 40), x.surprise(3, 0, 0)}, 1, 0, 1, 0, 0, 1, 1, 0, 1);
        x.word(0, 0);
        Due.is("one knows it by now", x.surprise(1, 0, 0), 0);
        Due.is("not the other one", x.surprise(2, 0, 0), 1);
        Due.are("NONE", new int[] {x.surprise(4, 0, 0), x.surprise(-1, 0, 0), x.surprise(1, 2, 0), x.surprise(1, -1, 0), x.surprise(1, 0, 41),
            x.surprise(1, 0, -1)}, -1, -1, -1, -1, -1, -1);
    }

    private static void lastDays() {
        BlissMarket x = Due.told("fact a day 999 worth 5;fact b day 998 worth 5;rule b from a;person p street 0 purse 4;licence p b till 999;");
        for (int k = 0; k < 33; k++) {
            x.days(30);
        }
        Due.is("DAY 999 is the last one AHEAD", x.when(0, 0), 999);
        Due.is("its BREACH", x.breach(0), 999);
        Due.is("bliss by DAY 998", x.bliss(0, 8), 5);
        Due.is("bliss by DAY 999", x.bliss(0, 9), 0);
        Due.is("no DAY beyond", x.bliss(0, 10), -1);
        Due.is("surprise by DAY 999", x.surprise(1, 0, 9), 0);
        Due.is("no DAY beyond", x.surprise(1, 0, 10), -1);
        Due.is("seeded by DAY 999", x.seeded(9, -1), 1);
        Due.is("no DAY beyond", x.seeded(10, -1), -1);
        BlissMarket y = Due.told("fact a day 0 worth 5;person p street 0 purse 4;licence p a till 999;");
        for (int k = 0; k < 33; k++) {
            y.days(30);
        }
        Due.is("there is no DAY 1000 on which the licence is over", y.when(0, 0), -1);
        x.days(9);
        Due.is("on DAY 999", x.when(0, 0), 999);
        Due.is("no BREACH AHEAD", x.breach(0), -1);
        Due.is("today", x.bliss(0, 0), 0);
    }
}
