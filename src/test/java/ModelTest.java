import java.lang.reflect.Method;
import java.util.Random;

/** Runs of calls by chance, on the class and on the Model: all answers must be alike. */
public final class ModelTest {
    private static final String[] FACTS = {"a", "b", "tax", "warden", "d", "eg", "f", "g", "love", "ii", "jay", "kk", "onea"};
    private static final String[] PEOPLE = {"p", "q", "ann", "bobby", "t", "u", "v", "w", "xerxes"};
    private static final String BYTES = " \n;;()[]<>=+-*/%,09az.A\t";

    private final Random r;

    private ModelTest(long seed) {
        r = new Random(seed);
    }

    public static void main(String[] args) throws Exception {
        int runs = args.length > 0 ? Integer.parseInt(args[0]) : 300;
        int texts = args.length > 1 ? Integer.parseInt(args[1]) : 4000;
        for (int k = 0; k < texts; k++) {
            new ModelTest(1000000 + k).compareText();
        }
        for (int k = 0; k < runs; k++) {
            new ModelTest(k).compareRun(k);
        }
        Due.close("ModelTest");
    }

    private String pick(String... of) {
        return of[r.nextInt(of.length)];
    }

    private String number(int most) {
        int n = r.nextInt(12) == 0 ? r.nextInt(2 * most + 2) : r.nextInt(most + 1);
        return r.nextInt(10) == 0 ? String.format("%04d", n) : Integer.toString(n);
    }

    private String part(int depth) {
        int k = r.nextInt(depth > 5 ? 12 : 16);
        if (k < 4) {
            return Integer.toString(r.nextInt(pick("a", "b").equals("a") ? 10 : 10000));
        }
        if (k < 12) {
            return pick("worth", "day", "street", "other", "left", "days", "holds", "knows");
        }
        if (k < 14) {
            return "(" + sum(depth + 1) + ")";
        }
        return pick("min", "max") + "(" + sum(depth + 1) + "," + sum(depth + 1) + ")";
    }

    private String sum(int depth) {
        StringBuilder s = new StringBuilder(part(depth));
        for (int k = r.nextInt(4); k > 0; k--) {
            s.append(pick("+", "-", "*", "/", "%", " + ", "\n*")).append(part(depth));
        }
        return s.toString();
    }

    private String facet(int depth) {
        int k = r.nextInt(depth > 5 ? 6 : 10);
        if (k < 5) {
            return sum(depth) + pick("<", ">", "=") + sum(depth);
        }
        if (k == 5) {
            return "all";
        }
        return k < 8 ? "not " + facet(depth + 1) : "[" + test(depth + 1) + "]";
    }

    private String test(int depth) {
        StringBuilder s = new StringBuilder(facet(depth));
        for (int k = r.nextInt(3); k > 0; k--) {
            s.append(pick(" or ", " and ")).append(facet(depth));
        }
        return s.toString();
    }

    private String statement(int facts, int people) {
        switch (r.nextInt(10)) {
            case 0:
            case 1:
            case 2:
                StringBuilder s = new StringBuilder("rule " + FACTS[r.nextInt(facts)] + " from");
                for (int k = 1 + r.nextInt(2); k > 0; k--) {
                    s.append(" ").append(FACTS[r.nextInt(facts)]);
                }
                return s.toString();
            case 3:
            case 4:
            case 5:
                return "meets " + PEOPLE[r.nextInt(people)] + " " + PEOPLE[r.nextInt(people)] + " on " + number(6);
            case 6:
            case 7:
            case 8:
                return "licence " + PEOPLE[r.nextInt(people)] + " " + FACTS[r.nextInt(facts)] + " till "
                    + number(r.nextInt(4) == 0 ? 999 : 30);
            default:
                return pick("price " + sum(0), "tells " + test(0), "stock " + number(99), "price worth/" + number(9));
        }
    }

    /** A text of lines, each of which is tried, so that most of them stand. */
    private String text() {
        int facts = r.nextInt(9) == 0 ? 13 : 1 + r.nextInt(12);
        int people = r.nextInt(9) == 0 ? 9 : 1 + r.nextInt(8);
        StringBuilder s = new StringBuilder();
        for (int k = 0; k < facts; k++) {
            add(s, "fact " + FACTS[k] + " day " + number(r.nextInt(3) == 0 ? 40 : 12) + " worth " + number(99));
        }
        for (int k = 0; k < people; k++) {
            add(s, "person " + PEOPLE[k] + " street " + number(9) + " purse " + number(r.nextInt(3) == 0 ? 30 : 999));
        }
        if (r.nextInt(3) == 0) {
            add(s, "stock " + r.nextInt(8));
        }
        if (r.nextInt(2) == 0) {
            add(s, "price " + pick("worth/3+days*(1+holds)-left/2", "worth/2", "street*3+knows", sum(0)));
        }
        if (r.nextInt(2) == 0) {
            add(s, "tells " + pick("worth<40", "street=other or worth>50", "knows>3 and left<15", test(0)));
        }
        for (int k = r.nextInt(40); k > 0; k--) {
            add(s, statement(facts, people));
        }
        return s.toString();
    }

    private void add(StringBuilder s, String line) {
        if (s.length() + line.length() + 1 > 1600) {
            return;
        }
        String more = s + line + ";";
        try {
            new Model.Parser(more).read();
        } catch (Model.Fault f) {
            if (r.nextInt(60) != 0) {
                return;
            }
        }
        s.append(line).append(";");
    }

    /** One word, number or line changed into another one that may stand there as well. */
    private String turned(String text) {
        String[] lines = text.split("(?<=;)");
        int k = r.nextInt(lines.length);
        switch (r.nextInt(6)) {
            case 0:
                lines[k] = lines[k] + lines[r.nextInt(lines.length)];
                break;
            case 1:
                lines[k] = lines[k].replaceFirst("[0-9]+", pick("7", "10", "100", "1000", "12345", "99", "999", "0000"));
                break;
            case 2:
                lines[k] = lines[k].replaceFirst(" [a-z]+", " " + pick(FACTS));
                break;
            case 3:
                lines[k] = lines[k].replaceFirst("([a-z]+ [a-z]+) [a-z]+", "$1 " + pick(pick(FACTS), pick(PEOPLE), "till"));
                break;
            case 4:
                lines[k] = lines[k].replaceFirst("^tells ", "tells " + "not [".repeat(r.nextInt(5)))
                    .replaceFirst("^price ", "price " + "(".repeat(r.nextInt(9)));
                break;
            default:
                lines[k] = lines[k].replaceAll(pick(" ", "(?<=[0-9]) ", " (?=[0-9])"), pick("", "\n", "  "));
        }
        String all = String.join("", lines);
        return all.length() > 1600 ? all.substring(0, 1600) : all;
    }

    private String spoiled(String text) {
        StringBuilder s = new StringBuilder(text);
        for (int k = 1 + r.nextInt(2); k > 0 && s.length() > 0; k--) {
            int at = r.nextInt(s.length());
            switch (r.nextInt(7)) {
                case 0:
                    s.setLength(at);
                    break;
                case 1:
                    s.deleteCharAt(at);
                    break;
                case 2:
                    s.insert(at, BYTES.charAt(r.nextInt(BYTES.length())));
                    break;
                case 3:
                    s.setCharAt(at, (char) r.nextInt(256));
                    break;
                case 4:
                    s.insert(at, pick("fact", "not ", "licence ", "licences", " 12345", "12345", "abcdefgh", "(((((((",
                        "all", " q", "stock 3;"));
                    break;
                case 5:
                    int to = Math.min(s.length(), at + r.nextInt(9));
                    s.delete(at, to);
                    break;
                default:
                    int end = Math.min(s.length(), at + 1 + r.nextInt(30));
                    s.insert(at, s.substring(at, end));
            }
        }
        return s.length() > 1600 ? s.substring(0, 1600) : s.toString();
    }

    private void compareText() {
        String text = r.nextInt(3) == 0 ? manyStatements() : text();
        for (int k = 0; k < 4; k++) {
            String spoiled = r.nextInt(3) == 0 ? spoiled(text) : turned(text);
            BlissMarket x = new BlissMarket();
            Model m = new Model();
            Due.feed(x, Due.bytes(spoiled));
            feed(m, Due.bytes(spoiled));
            Due.is("capital of <" + spoiled + ">", x.capital(), m.capital());
            Due.is("fault(0) of <" + spoiled + ">", x.fault(0), m.fault(0));
            Due.is("fault(1) of <" + spoiled + ">", x.fault(1), m.fault(1));
        }
    }

    private String manyStatements() {
        StringBuilder s = new StringBuilder();
        for (int k = 70 + r.nextInt(15); k > 0; k--) {
            s.append("stock ").append(r.nextInt(9)).append(pick(";", " ; ", ";\n"));
        }
        return s + pick("", "fact a day 1 worth 1;", "licence", "?", "stock", "abcdefgh");
    }

    private static void feed(Model m, byte[] bytes) {
        for (int from = 0; from < bytes.length; from += 20) {
            int[] n = Due.numbers(bytes, from);
            m.feed(n[0], n[1], n[2], n[3], n[4]);
        }
        m.end(bytes.length);
    }

    private void tell(BlissMarket x, Model m, String text) {
        Due.feed(x, Due.bytes(text));
        feed(m, Due.bytes(text));
        Due.is("capital", x.capital(), m.capital());
    }

    private void compareRun(int run) throws Exception {
        BlissMarket x = new BlissMarket();
        Model m = new Model();
        StringBuilder story = new StringBuilder("run " + run + ":");
        int calls = 0;
        while (calls < 400) {
            if (calls == 0 || r.nextInt(150) == 0) {
                tell(x, m, r.nextInt(8) == 0 ? spoiled(text()) : text());
                calls += 90;
            } else if (r.nextInt(60) == 0) {
                calls += images(x, m);
            } else {
                oneCall(x, m, story);
                calls++;
            }
        }
    }

    private int images(BlissMarket x, Model m) {
        int size = x.image();
        Due.is("image()", size, m.image());
        byte[] bytes = new byte[size];
        for (int k = 0; k < size; k++) {
            bytes[k] = (byte) x.octet(k);
            Due.is("octet", x.octet(k), m.octet(k));
        }
        for (int k = r.nextInt(3); k > 0; k--) {
            int at = r.nextInt(size);
            bytes[at] = (byte) (r.nextInt(3) == 0 ? r.nextInt(256) : r.nextInt(4));
        }
        if (r.nextInt(6) != 0) {
            int c = 101;
            for (int k = 0; k < size - 1; k++) {
                c = (5 * c + (bytes[k] & 255)) % 251;
            }
            bytes[size - 1] = (byte) c;
        }
        x.end(0);
        m.end(0);
        Due.feed(x, bytes);
        feed(m, bytes);
        if (r.nextInt(12) == 0) {
            int n = size - 1 + r.nextInt(3);
            Due.is("end", x.end(n), m.end(n));
        }
        Due.is("on()", x.on(), m.on());
        return 2 * size / 20 + 5;
    }

    private static final String[] CALLS = {"end 1", "fault 1", "has 1", "has 1", "letter 3", "fact 2", "rule 2", "person 2",
        "person 2", "licence 2", "price 3", "buy 3", "buy 3", "buy 3", "back 2", "word 2", "word 2", "days 1", "days 1",
        "rumours 1", "rumours 1", "undo 0", "seed 1", "kept 2", "when 2", "when 2", "breach 1", "breach 1", "bliss 2",
        "surprise 3", "follows 1", "by 3", "by 3", "barred 3", "cheapest 4", "seeded 2", "seeded 2", "face 2", "rest 1",
        "rest 1", "image 0", "octet 1", "status 1", "capital 0", "on 0"};

    private void oneCall(BlissMarket x, Model m, StringBuilder story) throws Exception {
        String[] call = CALLS[r.nextInt(CALLS.length)].split(" ");
        if ((call[0].equals("capital") || call[0].equals("on")) && r.nextInt(60) != 0) {
            return;
        }
        int count = Integer.parseInt(call[1]);
        Class<?>[] kinds = new Class<?>[count];
        Object[] args = new Object[count];
        story.append(' ').append(call[0]).append('(');
        for (int k = 0; k < count; k++) {
            kinds[k] = int.class;
            args[k] = argument(x, call[0], k);
            story.append(k == 0 ? "" : ", ").append(args[k]);
        }
        story.append(')');
        Method one = BlissMarket.class.getMethod(call[0], kinds);
        Method other = Model.class.getDeclaredMethod(call[0], kinds);
        Object got = one.invoke(x, args);
        Object want = other.invoke(m, args);
        String tail = story.length() > 400 ? story.substring(0, 8) + ".." + story.substring(story.length() - 390) : story.toString();
        Due.is(tail, number(got), number(want));
        story.append('=').append(got);
    }

    private static long number(Object answer) {
        return answer instanceof Boolean ? ((Boolean) answer ? 1 : 0) : (Integer) answer;
    }

    private int around(int most) {
        return r.nextInt(15) == 0 ? r.nextInt(3) + most : r.nextInt(20) == 0 ? -1 - r.nextInt(2) : r.nextInt(Math.max(1, most));
    }

    private int argument(BlissMarket x, String call, int k) {
        int facts = x.has(0);
        int people = x.has(2);
        switch (call + k) {
            case "has0":
                return around(13);
            case "fault0":
                return around(2);
            case "letter0":
                return around(2);
            case "letter1":
                return around(8);
            case "letter2":
                return around(6);
            case "fact0":
            case "licence1":
            case "price1":
            case "buy1":
            case "back1":
            case "word1":
            case "when1":
            case "surprise1":
            case "by1":
            case "barred1":
            case "cheapest1":
                return around(facts);
            case "person0":
            case "licence0":
            case "price0":
            case "buy0":
            case "back0":
            case "word0":
            case "when0":
            case "bliss0":
            case "cheapest0":
                return around(people);
            case "rule0":
                return around(x.has(1));
            case "fact1":
            case "person1":
            case "status0":
                return around(6);
            case "price2":
            case "buy2":
                return r.nextInt(6) == 0 ? around(101) : 1 + r.nextInt(12);
            case "days0":
            case "rumours0":
                return r.nextInt(8) == 0 ? around(32) : 1 + r.nextInt(3);
            case "kept0":
                return around(x.has(10));
            case "kept1":
            case "breach0":
            case "rest0":
                return around(4);
            case "bliss1":
            case "surprise2":
            case "seeded0":
                return around(41);
            case "seeded1":
                return r.nextInt(2) == 0 ? -1 : around(4);
            case "surprise0":
                return around(1 << people);
            case "follows0":
            case "by0":
            case "barred0":
                return around(1 << facts);
            case "by2":
                return r.nextInt(2) == 0 ? -1 : around(5);
            case "barred2":
            case "cheapest3":
                return around(2);
            case "cheapest2":
                return r.nextInt(5) == 0 ? around(1000) : around(40);
            case "face0":
                return r.nextInt(3) == 0 ? around(300) : Math.max(0, x.person(r.nextInt(Math.max(1, people)), 4));
            case "face1":
                return around(3);
            case "seed0":
                return r.nextInt();
            case "octet0":
                return around(230);
            default:
                return around(5);
        }
    }
}
