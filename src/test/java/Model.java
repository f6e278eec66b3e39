import java.util.ArrayDeque;
import java.util.ArrayList;
import java.util.Arrays;
import java.util.Deque;
import java.util.HashMap;
import java.util.LinkedHashMap;
import java.util.List;
import java.util.Map;
import java.util.Set;
import java.util.TreeMap;
import java.util.TreeSet;

/**
 * The document once more, written another way (sets, trees, exceptions, trying
 * all that there is), to hold the class against. Slow, and only for tests.
 */
final class Model {
    static final int NONE = -1;

    static final class Fault extends RuntimeException {
        private static final long serialVersionUID = 1L;
        final int kind;
        final int place;

        Fault(int kind, int place) {
            super("fault " + kind + " at " + place);
            this.kind = kind;
            this.place = place;
        }
    }

    /** What a SUM or TEST sees. */
    interface Formula {
        long of(Map<String, Integer> seen);
    }

    static final class FactRow {
        String name;
        int day;
        int worth;
    }

    static final class RuleRow {
        int fact;
        Set<Integer> from = new TreeSet<>();
    }

    static final class PersonRow {
        String name;
        int street;
        int purse;
    }

    static final class Text {
        final List<FactRow> facts = new ArrayList<>();
        final List<RuleRow> rules = new ArrayList<>();
        final List<PersonRow> people = new ArrayList<>();
        final List<int[]> meetings = new ArrayList<>();
        final Map<List<Integer>, Integer> licences = new LinkedHashMap<>();
        int stock = 20;
        Formula price;
        Formula tells;
        int statements;
    }

    // ---------------------------------------------------------------- reading

    static final Set<String> OWN = new TreeSet<>(Arrays.asList(("fact day worth rule from person street purse meets on "
        + "licence till price tells stock other left days holds knows or and not all min max").split(" ")));

    static final class Parser {
        final String t;
        int at;
        final Text x = new Text();
        int open;

        Parser(String t) {
            this.t = t;
        }

        void blanks() {
            while (at < t.length() && (t.charAt(at) == ' ' || t.charAt(at) == '\n')) {
                at++;
            }
        }

        boolean alnum(int k) {
            return k >= 0 && k < t.length() && String.valueOf(t.charAt(k)).matches("[a-z0-9]");
        }

        /** The next word, number or sign, not taken; "" at the end. */
        String peek() {
            blanks();
            if (at >= t.length()) {
                return "";
            }
            if (!alnum(at)) {
                return t.substring(at, at + 1);
            }
            if (alnum(at - 1)) {
                throw new Fault(1, at);
            }
            boolean digit = Character.isDigit(t.charAt(at));
            int k = at;
            while (alnum(k) && Character.isDigit(t.charAt(k)) == digit) {
                k++;
            }
            String w = t.substring(at, k);
            if (digit && w.length() > 4) {
                throw new Fault(1, at + 4);
            }
            if (!digit && w.length() > 6 && !OWN.contains(w)) {
                throw new Fault(1, at + 6);
            }
            return w;
        }

        void take(String w) {
            at += w.length();
        }

        boolean isNext(String w) {
            return peek().equals(w);
        }

        void need(String w) {
            if (!isNext(w)) {
                throw new Fault(1, at);
            }
            take(w);
        }

        String name() {
            String w = peek();
            if (!w.matches("[a-z]+") || OWN.contains(w)) {
                throw new Fault(1, at);
            }
            return w;
        }

        int number(int most) {
            String w = peek();
            if (!w.matches("[0-9]+")) {
                throw new Fault(1, at);
            }
            if (Integer.parseInt(w) > most) {
                throw new Fault(4, at);
            }
            take(w);
            return Integer.parseInt(w);
        }

        int factNamed(String n) {
            for (int k = 0; k < x.facts.size(); k++) {
                if (x.facts.get(k).name.equals(n)) {
                    return k;
                }
            }
            return NONE;
        }

        int personNamed(String n) {
            for (int k = 0; k < x.people.size(); k++) {
                if (x.people.get(k).name.equals(n)) {
                    return k;
                }
            }
            return NONE;
        }

        String fresh() {
            String n = name();
            if (factNamed(n) >= 0 || personNamed(n) >= 0) {
                throw new Fault(2, at);
            }
            take(n);
            return n;
        }

        int oldFact(Set<Integer> not) {
            String n = name();
            int k = factNamed(n);
            if (k < 0 || not.contains(k)) {
                throw new Fault(3, at);
            }
            take(n);
            return k;
        }

        int oldPerson(int not) {
            String n = name();
            int k = personNamed(n);
            if (k < 0 || k == not) {
                throw new Fault(3, at);
            }
            take(n);
            return k;
        }

        Text read() {
            while (true) {
                blanks();
                if (at >= t.length()) {
                    return x;
                }
                if (x.statements == 80) {
                    throw new Fault(6, at);
                }
                statement();
                need(";");
                x.statements++;
            }
        }

        void tooMany(boolean so, int place) {
            if (so) {
                throw new Fault(6, place);
            }
        }

        void statement() {
            String w = peek();
            int place = at;
            if (w.equals("fact")) {
                tooMany(x.facts.size() == 12, place);
                take(w);
                FactRow f = new FactRow();
                f.name = fresh();
                need("day");
                f.day = number(999);
                need("worth");
                f.worth = number(99);
                x.facts.add(f);
            } else if (w.equals("rule")) {
                tooMany(x.rules.size() == 16, place);
                take(w);
                RuleRow r = new RuleRow();
                r.fact = oldFact(Set.of());
                need("from");
                Set<Integer> not = new TreeSet<>();
                not.add(r.fact);
                do {
                    int f = oldFact(not);
                    not.add(f);
                    r.from.add(f);
                } while (peek().matches("[a-z]+") && !OWN.contains(peek()));
                x.rules.add(r);
            } else if (w.equals("person")) {
                tooMany(x.people.size() == 8, place);
                take(w);
                PersonRow p = new PersonRow();
                p.name = fresh();
                need("street");
                p.street = number(9);
                need("purse");
                p.purse = number(999);
                x.people.add(p);
            } else if (w.equals("meets")) {
                tooMany(x.meetings.size() == 16, place);
                take(w);
                int a = oldPerson(NONE);
                int b = oldPerson(a);
                need("on");
                x.meetings.add(new int[] {a, b, number(6)});
            } else if (w.equals("licence")) {
                take(w);
                int p = oldPerson(NONE);
                int f = oldFact(Set.of());
                tooMany(!x.licences.containsKey(List.of(p, f)) && x.licences.size() >= x.stock, place);
                need("till");
                x.licences.put(List.of(p, f), number(999));
            } else if (w.equals("price")) {
                tooMany(x.price != null, place);
                take(w);
                x.price = sum();
            } else if (w.equals("tells")) {
                tooMany(x.tells != null, place);
                take(w);
                x.tells = test();
            } else if (w.equals("stock")) {
                tooMany(!x.licences.isEmpty(), place);
                take(w);
                x.stock = number(99);
            } else {
                throw new Fault(1, at);
            }
        }

        void opening(String w) {
            if (!isNext(w)) {
                throw new Fault(1, at);
            }
            if (open == 7) {
                throw new Fault(5, at);
            }
            take(w);
            open++;
        }

        void closing(String w) {
            need(w);
            open--;
        }

        Formula test() {
            Formula a = both();
            while (isNext("or")) {
                take("or");
                Formula l = a;
                Formula r = both();
                a = m -> l.of(m) != 0 || r.of(m) != 0 ? 1 : 0;
            }
            return a;
        }

        Formula both() {
            Formula a = facet();
            while (isNext("and")) {
                take("and");
                Formula l = a;
                Formula r = facet();
                a = m -> l.of(m) != 0 && r.of(m) != 0 ? 1 : 0;
            }
            return a;
        }

        Formula facet() {
            if (isNext("not")) {
                opening("not");
                Formula f = facet();
                open--;
                return m -> f.of(m) == 0 ? 1 : 0;
            }
            if (isNext("[")) {
                opening("[");
                Formula f = test();
                closing("]");
                return f;
            }
            if (isNext("all")) {
                take("all");
                return m -> 1;
            }
            Formula a = sum();
            String sign = peek();
            if (sign.isEmpty() || "<>=".indexOf(sign) < 0) {
                throw new Fault(1, at);
            }
            take(sign);
            Formula b = sum();
            return m -> {
                int c = Long.compare(a.of(m), b.of(m));
                return (sign.equals("<") ? c < 0 : sign.equals(">") ? c > 0 : c == 0) ? 1 : 0;
            };
        }

        Formula sum() {
            Formula a = product();
            while (isNext("+") || isNext("-")) {
                String sign = peek();
                take(sign);
                Formula l = a;
                Formula r = product();
                a = m -> clip(sign.equals("+") ? l.of(m) + r.of(m) : l.of(m) - r.of(m));
            }
            return a;
        }

        Formula product() {
            Formula a = part();
            while (isNext("*") || isNext("/") || isNext("%")) {
                String sign = peek();
                take(sign);
                Formula l = a;
                Formula r = part();
                a = m -> clip(times(sign, l.of(m), r.of(m)));
            }
            return a;
        }

        static long times(String sign, long a, long b) {
            if (sign.equals("*")) {
                return a * b;
            }
            if (b == 0) {
                return 0;
            }
            long q = a / b;
            while (q * (double) b > a && b > 0 || q * (double) b < a && b < 0) {
                q--;
            }
            return sign.equals("/") ? q : a - b * q;
        }

        static long clip(long v) {
            return v > 1000000 ? 1000000 : v < -1000000 ? -1000000 : v;
        }

        Formula part() {
            String w = peek();
            if (w.matches("[0-9]+")) {
                take(w);
                long v = Long.parseLong(w);
                return m -> v;
            }
            if (w.matches("worth|day|street|other|left|days|holds|knows")) {
                take(w);
                return m -> m.get(w);
            }
            if (w.equals("(")) {
                opening("(");
                Formula f = sum();
                closing(")");
                return f;
            }
            if (w.equals("min") || w.equals("max")) {
                take(w);
                opening("(");
                Formula a = sum();
                need(",");
                Formula b = sum();
                closing(")");
                return w.equals("min") ? m -> Math.min(a.of(m), b.of(m)) : m -> Math.max(a.of(m), b.of(m));
            }
            throw new Fault(1, at);
        }
    }

    // ---------------------------------------------------------------- the days

    static final class World {
        int day;
        List<Set<Integer>> knows = new ArrayList<>();
        List<Integer> purse = new ArrayList<>();
        Map<List<Integer>, Integer> till = new TreeMap<>((a, b) -> a.get(0) * 100 + a.get(1) - b.get(0) * 100 - b.get(1));
        List<int[]> kept = new ArrayList<>();
        List<int[]> fresh = new ArrayList<>();

        World copy() {
            World w = new World();
            w.day = day;
            for (Set<Integer> k : knows) {
                w.knows.add(new TreeSet<>(k));
            }
            w.purse.addAll(purse);
            w.till.putAll(till);
            w.kept.addAll(kept);
            return w;
        }
    }

    private final List<Integer> tape = new ArrayList<>();
    private Text x = new Text();
    private World now = new World();
    private Deque<World> past = new ArrayDeque<>();
    private int faultKind;
    private int faultPlace = NONE;
    private int seed = 1;
    private List<Integer> image = new ArrayList<>();
    private final Map<Integer, Integer> refused = new HashMap<>();

    private int no(int kind) {
        refused.merge(kind, 1, Integer::sum);
        return NONE;
    }

    private boolean valid(World w, int p, int f) {
        return w.till.getOrDefault(List.of(p, f), NONE) >= w.day;
    }

    private int left(World w) {
        int n = x.stock;
        for (int t : w.till.values()) {
            n -= t >= w.day ? 1 : 0;
        }
        return n;
    }

    private Set<Integer> common(int day) {
        Set<Integer> s = new TreeSet<>();
        for (int f = 0; f < x.facts.size(); f++) {
            if (x.facts.get(f).day <= day) {
                s.add(f);
            }
        }
        return s;
    }

    private Map<String, Integer> seen(World w, int p, int f, int other, int days) {
        Map<String, Integer> m = new HashMap<>();
        int holds = 0;
        for (int g = 0; g < x.facts.size(); g++) {
            holds += valid(w, p, g) ? 1 : 0;
        }
        m.put("worth", x.facts.get(f).worth);
        m.put("day", w.day);
        m.put("street", x.people.get(p).street);
        m.put("other", other);
        m.put("left", left(w));
        m.put("days", days);
        m.put("holds", holds);
        m.put("knows", w.knows.get(p).size());
        return m;
    }

    private void infer(World w, int p) {
        Set<Integer> k = w.knows.get(p);
        boolean more = true;
        while (more) {
            more = false;
            for (int r = 0; r < x.rules.size(); r++) {
                RuleRow rule = x.rules.get(r);
                if (k.containsAll(rule.from) && k.add(rule.fact)) {
                    more = true;
                    if (valid(w, p, rule.fact)) {
                        int[] b = {w.day, p, rule.fact, r};
                        w.kept.add(b);
                        w.fresh.add(b);
                        if (w.kept.size() > 40) {
                            w.kept.remove(0);
                        }
                    }
                }
            }
        }
    }

    private void begin(World w) {
        for (int p = 0; p < x.people.size(); p++) {
            for (int f : common(w.day)) {
                if (!valid(w, p, f)) {
                    w.knows.get(p).add(f);
                }
            }
        }
        for (int p = 0; p < x.people.size(); p++) {
            infer(w, p);
        }
        for (int[] m : x.meetings) {
            if (m[2] == w.day % 7) {
                Set<Integer> heard = new TreeSet<>();
                for (int f : w.knows.get(m[0])) {
                    boolean open = !w.knows.get(m[1]).contains(f) && !valid(w, m[1], f);
                    if (open && (x.tells == null
                        || x.tells.of(seen(w, m[0], f, x.people.get(m[1]).street, 0)) != 0)) {
                        heard.add(f);
                    }
                }
                w.knows.get(m[1]).addAll(heard);
                infer(w, m[1]);
            }
        }
    }

    private void step(World w) {
        w.day++;
        begin(w);
    }

    private int blissIn(World w, int p) {
        int sum = 0;
        for (int f : common(w.day)) {
            sum += w.knows.get(p).contains(f) ? 0 : x.facts.get(f).worth;
        }
        return sum;
    }

    private int priceIn(World w, int p, int f, int n) {
        if (x.price == null) {
            return 0;
        }
        return (int) Math.max(0, Math.min(999, x.price.of(seen(w, p, f, 0, n))));
    }

    private boolean isF(int f) {
        return f >= 0 && f < x.facts.size();
    }

    private boolean isP(int p) {
        return p >= 0 && p < x.people.size();
    }

    private static int bits(Set<Integer> s) {
        int b = 0;
        for (int k : s) {
            b += 1 << k;
        }
        return b;
    }

    private static Set<Integer> set(int bits) {
        Set<Integer> s = new TreeSet<>();
        for (int k = 0; k < 31; k++) {
            if ((bits >> k) % 2 == 1) {
                s.add(k);
            }
        }
        return s;
    }

    // ---------------------------------------------------------------- the face

    int feed(int a, int b, int c, int d, int e) {
        if (tape.size() > 1580) {
            return no(0);
        }
        for (int v : new int[] {a, b, c, d, e}) {
            for (byte o : java.nio.ByteBuffer.allocate(4).putInt(v).array()) {
                tape.add(o & 0xff);
            }
        }
        return tape.size();
    }

    boolean end(int n) {
        if (n < 0 || n > tape.size()) {
            no(0);
            return false;
        }
        while (tape.size() > n) {
            tape.remove(tape.size() - 1);
        }
        return true;
    }

    int capital() {
        StringBuilder t = new StringBuilder();
        for (int o : tape) {
            t.append((char) o);
        }
        tape.clear();
        try {
            x = new Parser(t.toString()).read();
        } catch (Fault f) {
            faultKind = f.kind;
            faultPlace = f.place;
            return no(1);
        }
        faultKind = 0;
        faultPlace = NONE;
        now = new World();
        for (PersonRow p : x.people) {
            now.knows.add(new TreeSet<>());
            now.purse.add(p.purse);
        }
        now.till.putAll(x.licences);
        past.clear();
        begin(now);
        return x.statements;
    }

    int fault(int what) {
        return what == 0 ? faultKind : what == 1 ? faultPlace : NONE;
    }

    int has(int what) {
        int coins = 0;
        int all = 0;
        for (int p = 0; p < x.people.size(); p++) {
            coins += now.purse.get(p);
            all += blissIn(now, p);
        }
        int[] a = {x.facts.size(), x.rules.size(), x.people.size(), x.meetings.size(), x.stock - left(now), left(now),
            now.day, bits(common(now.day)), coins, all, now.kept.size(), past.size(), seed};
        return what < 0 || what >= a.length ? NONE : a[what];
    }

    int letter(int kind, int which, int k) {
        if (k < 0 || k > 5 || kind < 0 || kind > 1 || !(kind == 0 ? isF(which) : isP(which))) {
            return NONE;
        }
        String n = kind == 0 ? x.facts.get(which).name : x.people.get(which).name;
        return k < n.length() ? n.charAt(k) - 96 : 0;
    }

    int fact(int f, int what) {
        if (!isF(f) || what < 0 || what > 5) {
            return NONE;
        }
        int know = 0;
        int hold = 0;
        for (int p = 0; p < x.people.size(); p++) {
            know += now.knows.get(p).contains(f) ? 1 : 0;
            hold += valid(now, p, f) ? 1 : 0;
        }
        int give = 0;
        Set<Integer> need = new TreeSet<>();
        for (RuleRow r : x.rules) {
            give += r.fact == f ? 1 : 0;
            if (r.from.contains(f)) {
                need.add(r.fact);
            }
        }
        return new int[] {x.facts.get(f).day, x.facts.get(f).worth, know, hold, give, bits(need)}[what];
    }

    int rule(int r, int what) {
        if (r < 0 || r >= x.rules.size() || what < 0 || what > 1) {
            return NONE;
        }
        return what == 0 ? x.rules.get(r).fact : bits(x.rules.get(r).from);
    }

    int person(int p, int what) {
        if (!isP(p) || what < 0 || what > 5) {
            return NONE;
        }
        Set<Integer> v = new TreeSet<>();
        for (int f = 0; f < x.facts.size(); f++) {
            if (valid(now, p, f)) {
                v.add(f);
            }
        }
        int his = 0;
        for (int[] b : now.kept) {
            his += b[1] == p ? 1 : 0;
        }
        return new int[] {x.people.get(p).street, now.purse.get(p), bits(now.knows.get(p)), bits(v), blissIn(now, p),
            his}[what];
    }

    int licence(int p, int f) {
        return isP(p) && isF(f) && valid(now, p, f) ? now.till.get(List.of(p, f)) : NONE;
    }

    int price(int p, int f, int n) {
        return isP(p) && isF(f) && n >= 1 && n <= 99 ? priceIn(now, p, f, n) : NONE;
    }

    private void act() {
        past.addLast(now.copy());
        if (past.size() > 20) {
            past.removeFirst();
        }
        now.fresh.clear();
    }

    int buy(int p, int f, int n) {
        if (!isP(p) || !isF(f) || valid(now, p, f) || now.knows.get(p).contains(f) || n < 1 || n > 99 || left(now) < 1
            || now.day + n - 1 > 999 || priceIn(now, p, f, n) > now.purse.get(p)) {
            return no(2);
        }
        int cost = priceIn(now, p, f, n);
        act();
        now.till.put(List.of(p, f), now.day + n - 1);
        now.purse.set(p, now.purse.get(p) - cost);
        return cost;
    }

    boolean back(int p, int f) {
        if (licence(p, f) == NONE) {
            no(2);
            return false;
        }
        act();
        now.till.remove(List.of(p, f));
        return true;
    }

    int word(int p, int f) {
        if (!isP(p) || !isF(f) || valid(now, p, f) || now.knows.get(p).contains(f)) {
            return no(2);
        }
        act();
        int before = now.knows.get(p).size();
        now.knows.get(p).add(f);
        infer(now, p);
        return now.knows.get(p).size() - before;
    }

    int days(int n) {
        if (n < 1 || n > 30 || now.day + n > 999) {
            return no(3);
        }
        act();
        for (int k = 0; k < n; k++) {
            step(now);
        }
        return now.fresh.size();
    }

    private int draw(int m) {
        seed = (int) java.math.BigInteger.valueOf(1103515245L).multiply(java.math.BigInteger.valueOf(seed))
            .add(java.math.BigInteger.valueOf(12345)).mod(java.math.BigInteger.ONE.shiftLeft(31)).longValue();
        return (seed >> 6) % m;
    }

    int rumours(int n) {
        if (n < 1 || n > 30 || now.day + n > 999) {
            return no(3);
        }
        act();
        for (int k = 0; k < n; k++) {
            step(now);
            if (!x.people.isEmpty() && !x.facts.isEmpty()) {
                int p = draw(x.people.size());
                int f = draw(x.facts.size());
                if (draw(2) == 1 && !valid(now, p, f) && now.knows.get(p).add(f)) {
                    infer(now, p);
                }
            }
        }
        return now.fresh.size();
    }

    boolean undo() {
        if (past.isEmpty()) {
            no(4);
            return false;
        }
        now = past.removeLast();
        return true;
    }

    boolean seed(int s) {
        if (s < 0) {
            no(5);
            return false;
        }
        seed = s;
        return true;
    }

    int kept(int k, int what) {
        return k < 0 || k >= now.kept.size() || what < 0 || what > 3 ? NONE : now.kept.get(k)[what];
    }

    private World ahead(int n) {
        World w = now.copy();
        for (int k = 0; k < n; k++) {
            step(w);
        }
        return w;
    }

    private boolean isAhead(int n) {
        return n >= 0 && n <= 40 && now.day + n <= 999;
    }

    int when(int p, int f) {
        if (!isP(p) || !isF(f)) {
            return NONE;
        }
        World w = now.copy();
        for (int n = 0; isAhead(n); n++) {
            if (w.knows.get(p).contains(f)) {
                return now.day + n;
            }
            step(w);
        }
        return NONE;
    }

    int breach(int what) {
        World w = now.copy();
        for (int n = 1; isAhead(n); n++) {
            step(w);
            if (!w.fresh.isEmpty()) {
                return what < 0 || what > 3 ? NONE : w.fresh.get(0)[what];
            }
        }
        return NONE;
    }

    int bliss(int p, int n) {
        return isP(p) && isAhead(n) ? blissIn(ahead(n), p) : NONE;
    }

    int surprise(int people, int f, int n) {
        if (people < 0 || people >> x.people.size() != 0 || !isF(f) || !isAhead(n)) {
            return NONE;
        }
        World w = ahead(n);
        for (int p : set(people)) {
            if (w.knows.get(p).contains(f)) {
                return 0;
            }
        }
        return 1;
    }

    private List<Integer> row(Set<Integer> known) {
        List<Integer> row = new ArrayList<>();
        boolean more = true;
        while (more) {
            more = false;
            for (int r = 0; r < x.rules.size(); r++) {
                if (known.containsAll(x.rules.get(r).from) && known.add(x.rules.get(r).fact)) {
                    row.add(r);
                    more = true;
                }
            }
        }
        return row;
    }

    private boolean areF(int facts) {
        return facts >= 0 && facts >> x.facts.size() == 0;
    }

    int follows(int facts) {
        if (!areF(facts)) {
            return NONE;
        }
        Set<Integer> s = set(facts);
        row(s);
        return bits(s);
    }

    int by(int facts, int f, int k) {
        if (!areF(facts) || !isF(f) || (follows(facts) >> f) % 2 == 0) {
            return NONE;
        }
        List<Integer> row = row(set(facts));
        Set<Integer> need = new TreeSet<>(Set.of(f));
        List<Integer> got = new ArrayList<>();
        for (int i = row.size() - 1; i >= 0; i--) {
            if (need.contains(x.rules.get(row.get(i)).fact)) {
                need.addAll(x.rules.get(row.get(i)).from);
                got.add(0, row.get(i));
            }
        }
        return k == NONE ? got.size() : k < 0 || k >= got.size() ? NONE : got.get(k);
    }

    int barred(int facts, int f, int what) {
        if (!areF(facts) || !isF(f) || what < 0 || what > 1) {
            return NONE;
        }
        int some = bits(without(set(facts), f));
        int best = NONE;
        for (int cut = 0; cut <= some; cut++) {
            if ((cut | some) == some && (follows(some - cut) >> f) % 2 == 0
                && (best == NONE || Integer.bitCount(cut) < Integer.bitCount(best))) {
                best = cut;
            }
        }
        return what == 0 ? Integer.bitCount(best) : best;
    }

    private static Set<Integer> without(Set<Integer> s, int f) {
        s.remove(f);
        return s;
    }

    int cheapest(int p, int f, int day, int what) {
        if (!isP(p) || !isF(f) || day < 0 || day > 999 || what < 0 || what > 1) {
            return NONE;
        }
        int some = bits(without(common(day), f));
        int[] cost = new int[12];
        for (int g : set(some)) {
            cost[g] = valid(now, p, g) ? 0 : priceIn(now, p, g, 7);
        }
        int best = NONE;
        int least = Integer.MAX_VALUE;
        for (int cut = 0; cut <= some; cut++) {
            if ((cut | some) == some && (follows(some - cut) >> f) % 2 == 0) {
                int sum = 0;
                for (int g : set(cut)) {
                    sum += cost[g];
                }
                if (sum < least) {
                    least = sum;
                    best = cut;
                }
            }
        }
        return what == 0 ? least : best;
    }

    private boolean allKnow(List<Integer> who, int n) {
        Set<Integer> s = new TreeSet<>(who);
        for (int d = now.day + 1; d <= now.day + n; d++) {
            for (int[] m : x.meetings) {
                if (m[2] == d % 7 && s.contains(m[0])) {
                    s.add(m[1]);
                }
            }
        }
        return s.size() == x.people.size();
    }

    private List<Integer> firstSeeds(List<Integer> who, int size, int n) {
        if (who.size() == size) {
            return allKnow(who, n) ? who : null;
        }
        for (int p = who.isEmpty() ? 0 : who.get(who.size() - 1) + 1; p < x.people.size(); p++) {
            List<Integer> more = new ArrayList<>(who);
            more.add(p);
            List<Integer> got = firstSeeds(more, size, n);
            if (got != null) {
                return got;
            }
        }
        return null;
    }

    int seeded(int n, int k) {
        if (!isAhead(n)) {
            return NONE;
        }
        for (int size = 0; size <= 3; size++) {
            List<Integer> got = firstSeeds(List.of(), size, n);
            if (got != null) {
                return k == NONE ? got.size() : k < 0 || k >= got.size() ? NONE : got.get(k);
            }
        }
        return NONE;
    }

    int face(int n, int what) {
        if (n < 0 || what < 0 || what > 2) {
            return NONE;
        }
        int count = 0;
        int all = NONE;
        int some = 0;
        for (int k = 0; k >> x.facts.size() == 0; k++) {
            int sum = 0;
            for (int f : common(now.day)) {
                sum += (k >> f) % 2 == 0 ? x.facts.get(f).worth : 0;
            }
            if (sum == n && follows(k) == k) {
                count++;
                all &= k;
                some |= k;
            }
        }
        return what == 0 ? count : what == 2 ? some : count == 0 ? 0 : all;
    }

    int rest(int what) {
        World w = now.copy();
        int rounds = 0;
        int licences = 0;
        int coins = 0;
        boolean more = true;
        while (more) {
            more = false;
            rounds++;
            for (int p = 0; p < x.people.size(); p++) {
                int best = NONE;
                int gain = 0;
                for (int f : common(w.day)) {
                    if (!w.knows.get(p).contains(f) && !valid(w, p, f) && left(w) > 0 && w.day + 6 <= 999) {
                        int cost = priceIn(w, p, f, 7);
                        if (cost <= w.purse.get(p) && x.facts.get(f).worth - cost > gain) {
                            gain = x.facts.get(f).worth - cost;
                            best = f;
                        }
                    }
                }
                if (best != NONE) {
                    int cost = priceIn(w, p, best, 7);
                    w.till.put(List.of(p, best), w.day + 6);
                    w.purse.set(p, w.purse.get(p) - cost);
                    coins += cost;
                    licences++;
                    more = true;
                }
            }
        }
        return what < 0 || what > 3 ? NONE : new int[] {rounds, licences, coins, left(w)}[what];
    }

    int image() {
        List<Integer> words = new ArrayList<>();
        words.add(now.day);
        for (int p = 0; p < x.people.size(); p++) {
            words.add(bits(now.knows.get(p)));
            words.add(now.purse.get(p));
            for (int f = 0; f < x.facts.size(); f++) {
                words.add(licence(p, f) + 1);
            }
        }
        image = new ArrayList<>();
        int c = 101;
        for (int w : words) {
            for (int o : new int[] {w / 256, w % 256}) {
                image.add(o);
                c = (5 * c + o) % 251;
            }
        }
        image.add(c);
        return image.size();
    }

    int octet(int k) {
        return k < 0 || k >= image.size() ? NONE : image.get(k);
    }

    boolean on() {
        List<Integer> t = new ArrayList<>(tape);
        tape.clear();
        World w = new World();
        if (!isImage(t, w)) {
            no(5);
            return false;
        }
        now = w;
        past.clear();
        return true;
    }

    private boolean isImage(List<Integer> t, World w) {
        if (t.size() != 3 + x.people.size() * (4 + 2 * x.facts.size())) {
            return false;
        }
        int c = 101;
        for (int o : t.subList(0, t.size() - 1)) {
            c = (5 * c + o) % 251;
        }
        List<Integer> words = new ArrayList<>();
        for (int k = 0; k + 1 < t.size(); k += 2) {
            words.add(t.get(k) * 256 + t.get(k + 1));
        }
        boolean fine = c == t.get(t.size() - 1) && words.get(0) <= 999;
        w.day = words.remove(0);
        for (int p = 0; p < x.people.size(); p++) {
            int k = words.remove(0);
            fine &= areF(k);
            w.knows.add(set(k));
            int coins = words.remove(0);
            fine &= coins <= 999;
            w.purse.add(coins);
            for (int f = 0; f < x.facts.size(); f++) {
                int till = words.remove(0);
                fine &= till <= 1000;
                if (till > 0) {
                    w.till.put(List.of(p, f), till - 1);
                }
            }
        }
        return fine && left(w) >= 0;
    }

    int status(int what) {
        return what < 0 || what > 5 ? NONE : refused.getOrDefault(what, 0);
    }
}
