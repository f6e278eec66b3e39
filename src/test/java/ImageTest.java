/** Promises 32 to 35: images, and how many were refused. */
public final class ImageTest {
    private static final String TEXT = "fact a day 2 worth 9;fact b day 900 worth 9;person p street 0 purse 300;person q street 0 purse 4;stock 2;"
        + "licence p a till 3;licence q b till 999;rule b from a;";

    private ImageTest() {
    }

    public static void main(String[] args) {
        written();
        putOn();
        notPutOn();
        refusals();
        Due.close("ImageTest");
    }

    private static byte[] image(BlissMarket x) {
        byte[] bytes = new byte[x.image()];
        for (int k = 0; k < bytes.length; k++) {
            bytes[k] = (byte) x.octet(k);
        }
        return bytes;
    }

    private static byte[] checked(int... octets) {
        byte[] bytes = new byte[octets.length + 1];
        int c = 101;
        for (int k = 0; k < octets.length; k++) {
            bytes[k] = (byte) octets[k];
            c = (5 * c + octets[k]) % 251;
        }
        bytes[octets.length] = (byte) c;
        return bytes;
    }

    private static void written() {
        BlissMarket none = new BlissMarket();
        Due.is("octet ahead of any image", none.octet(0), -1);
        Due.is("image", none.image(), 3);
        Due.are("octets", new int[] {none.octet(0), none.octet(1), none.octet(2), none.octet(3), none.octet(-1)}, 0, 0, 5 * (505 % 251) % 251, -1, -1);
        BlissMarket x = Due.told(TEXT);
        x.days(4);
        Due.is("image", x.image(), 19);
        byte[] due = checked(0, 4, 0, 3, 1, 44, 0, 0, 0, 0, 0, 3, 0, 4, 0, 0, 3, 232);
        for (int k = 0; k < due.length; k++) {
            Due.is("octet(" + k + ")", x.octet(k), due[k] & 255);
        }
        Due.is("octet(19)", x.octet(19), -1);
        x.days(30);
        Due.is("the latest image() stays", x.octet(1), 4);
        Due.is("no ACT", x.has(11), 2);
        x.capital();
        Due.is("the latest image() stays", x.octet(1), 4);
        BlissMarket most = Due.told("fact a day 2 worth 9;fact b day 2 worth 9;fact c day 2 worth 9;fact d day 2 worth 9;fact e day 2 worth 9;"
            + "fact f day 2 worth 9;fact g day 2 worth 9;fact h day 2 worth 9;fact i day 2 worth 9;fact j day 2 worth 9;fact k day 2 worth 9;"
            + "fact l day 2 worth 9;person m street 0 purse 1;person n street 0 purse 1;person o street 0 purse 1;person p street 0 purse 1;"
            + "person q street 0 purse 1;person r street 0 purse 1;person s street 0 purse 1;person t street 0 purse 1;licence t l till 998;");
        byte[] whole = image(most);
        most.days(5);
        Due.feed(most, whole);
        Due.is("on, of the longest", most.on(), true);
        Due.are("as it was", new int[] {most.has(6), most.person(7, 2), most.licence(7, 11), most.has(8)}, 0, 0, 998, 8);
        Due.is("the longest image", most.image(), 227);
        Due.are("its end", new int[] {most.octet(224), most.octet(225)}, 3, 231);
    }

    private static void putOn() {
        BlissMarket x = Due.told(TEXT);
        byte[] early = image(x);
        x.days(4);
        Due.is("a BREACH", x.has(10), 1);
        Due.feed(x, early);
        Due.is("on", x.on(), true);
        Due.are("all is as it was", new int[] {x.has(4), x.has(5), x.has(6), x.has(8), x.person(0, 2), x.person(1, 2), x.licence(0, 0), x.licence(1, 1)},
            2, 0, 0, 304, 0, 0, 3, 999);
        Due.is("nothing KEPT", x.has(10), 0);
        Due.is("no ACT can be undone", x.has(11), 0);
        Due.is("the tape is gone", x.end(1), false);
        Due.is("days go on from there", x.days(4), 1);
        BlissMarket y = Due.told(TEXT);
        Due.feed(y, checked(3, 231, 0, 2, 3, 231, 3, 231, 3, 232, 0, 0, 0, 0, 3, 232, 0, 1));
        Due.is("DAY 999, licences till 998, 999 and 0, a purse of 999", y.on(), true);
        Due.are("all is as it tells", new int[] {y.has(6), y.person(0, 2), y.person(0, 1), y.person(1, 1), y.licence(0, 0), y.licence(0, 1),
            y.licence(1, 0), y.licence(1, 1), y.has(4)}, 999, 2, 999, 0, -1, 999, 999, -1, 2);
        Due.is("no DAY begins by that", y.person(1, 2), 0);
        Due.is("image has no licences that are over", y.image(), 19);
        Due.are("octets", new int[] {y.octet(6), y.octet(7), y.octet(8), y.octet(9)}, 0, 0, 3, 232);
        Due.feed(y, checked(0, 5, 0, 0, 0, 0, 0, 5, 0, 5, 0, 0, 0, 0, 0, 5, 0, 6));
        Due.is("more licences than stock, but no more VALID ones", y.on(), true);
        Due.is("VALID", y.has(4), 1);
        BlissMarket z = new BlissMarket();
        z.image();
        Due.feed(z, image(z));
        Due.is("on, of an empty one", z.on(), true);
        Due.is("the seed stays", z.has(12), 1);
    }

    private static void refused(BlissMarket x, String why, byte[] bytes) {
        int before = x.status(5);
        byte[] was = image(x);
        Due.feed(x, bytes);
        Due.is(why, x.on(), false);
        Due.is("status(5)", x.status(5), before + 1);
        Due.is("the tape is gone", x.end(1), false);
        Due.is("ACTS stay", x.has(11), 1);
        Due.is("KEPT stays", x.has(10), 1);
        byte[] is = image(x);
        Due.is("all stays", java.util.Arrays.equals(was, is), true);
    }

    private static void notPutOn() {
        BlissMarket x = Due.told(TEXT);
        x.days(2);
        refused(x, "nothing", new byte[0]);
        refused(x, "too short", checked(0, 4, 0, 3, 1, 44, 0, 0, 0, 0, 0, 3, 0, 4, 0, 0, 3));
        refused(x, "too long", checked(0, 4, 0, 3, 1, 44, 0, 0, 0, 0, 0, 3, 0, 4, 0, 0, 3, 232, 0));
        refused(x, "DAY 1000", checked(3, 232, 0, 3, 1, 44, 0, 0, 0, 0, 0, 3, 0, 4, 0, 0, 3, 232));
        refused(x, "a FACT that is not there", checked(0, 4, 0, 7, 1, 44, 0, 0, 0, 0, 0, 3, 0, 4, 0, 0, 3, 232));
        refused(x, "FACTS in the higher byte", checked(0, 4, 255, 3, 1, 44, 0, 0, 0, 0, 0, 3, 0, 4, 0, 0, 3, 232));
        refused(x, "a purse of 1000", checked(0, 4, 0, 3, 3, 232, 0, 0, 0, 0, 0, 3, 0, 4, 0, 0, 3, 232));
        refused(x, "a licence till 1000", checked(0, 4, 0, 3, 1, 44, 0, 0, 0, 0, 0, 3, 0, 4, 0, 0, 3, 233));
        refused(x, "three VALID licences", checked(0, 4, 0, 0, 1, 44, 0, 5, 0, 5, 0, 0, 0, 4, 0, 5, 0, 0));
        byte[] bytes = checked(0, 4, 0, 3, 1, 44, 0, 0, 0, 0, 0, 3, 0, 4, 0, 0, 3, 232);
        bytes[18]++;
        refused(x, "the last byte", bytes);
        bytes[18]--;
        bytes[13]++;
        refused(x, "another byte", bytes);
        bytes[13]--;
        Due.feed(x, bytes);
        Due.is("it is one", x.on(), true);
        byte[] high = checked(0, 1, 0, 0, 0, 0, 0, 0, 0, 0, 0, 0, 0, 0, 0, 0, 0, 0);
        int check = high[18] & 255;
        if (check + 251 <= 255) {
            high[18] = (byte) (check + 251);
            Due.feed(x, high);
            Due.is("the last byte is below 251", x.on(), false);
        }
    }

    private static void refusals() {
        BlissMarket x = new BlissMarket();
        x.end(1);
        x.feed(0, 0, 0, 0, 0);
        x.capital();
        x.buy(0, 0, 1);
        x.back(0, 0);
        x.word(0, 0);
        x.days(0);
        x.rumours(0);
        x.undo();
        x.seed(-1);
        x.on();
        Due.are("status", new int[] {x.status(0), x.status(1), x.status(2), x.status(3), x.status(4), x.status(5), x.status(6), x.status(-1)},
            1, 1, 3, 2, 1, 2, -1, -1);
        x.seed(1);
        x.days(1);
        x.undo();
        Due.is("what is not refused does not count", x.status(4), 1);
        Due.is("NONE", BlissMarket.NONE, -1);
    }
}
