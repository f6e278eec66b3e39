import java.util.Arrays;

/**
 * Licensed not to know: facts that become common by their days, rules by which
 * they follow from one another, people who buy licences not to know them.
 * The words in capitals are those of the document.
 */
public final class BlissMarket {
    /** None; refused. */
    public static final int NONE = -1;

    private static final int FACTS = 12;
    private static final int RULES = 16;
    private static final int PEOPLE = 8;
    private static final int MEETINGS = 16;
    private static final int STATEMENTS = 80;
    private static final int TAPE = 1600;
    private static final int FED = 20;
    private static final int LETTERS = 6;
    private static final int KEPT = 40;
    private static final int UNDONE = 20;
    private static final int AHEAD = 40;
    private static final int LAST_DAY = 999;
    private static final int MOST_COINS = 999;
    private static final int MOST_BOUGHT = 99;
    private static final int MOST_AT_ONCE = 30;
    private static final int WEEK = 7;
    private static final int STOCK = 20;

    private final byte[] tape;
    private final Reader reader;
    private final Market market;
    private final Questions questions;
    private final Picture picture;
    private final Past past;
    private final State now;
    /** A copy of what is now, in which DAYS AHEAD go by. */
    private final State later;
    private final int[] refused;
    /** What the next text is read into, so that a FAULT leaves all as it is. */
    private Capital spare;
    private int taped;
    private int seed;

    public BlissMarket() {
        tape = new byte[TAPE];
        reader = new Reader();
        market = new Market();
        questions = new Questions();
        picture = new Picture();
        past = new Past();
        now = new State();
        later = new State();
        refused = new int[6];
        spare = new Capital();
        taped = 0;
        seed = 1;
    }

    // ---- the text

    public int feed(int a, int b, int c, int d, int e) {
        if (taped + FED > TAPE) {
            return refuse(0);
        }
        putNumber(a);
        putNumber(b);
        putNumber(c);
        putNumber(d);
        putNumber(e);
        return taped;
    }

    public boolean end(int n) {
        if (n < 0 || n > taped) {
            refuse(0);
            return false;
        }
        taped = n;
        return true;
    }

    public int capital() {
        int length = taped;
        taped = 0;
        int statements = reader.readText(tape, length, spare);
        if (statements == NONE) {
            return refuse(1);
        }
        Capital old = market.told;
        market.told = spare;
        spare = old;
        past.forget();
        market.setOut(now);
        return statements;
    }

    public int fault(int what) {
        switch (what) {
            case 0:
                return reader.faultKind;
            case 1:
                return reader.faultPlace;
            default:
                return NONE;
        }
    }

    // ---- what there is

    public int has(int what) {
        Capital told = market.told;
        switch (what) {
            case 0:
                return told.facts;
            case 1:
                return told.rules;
            case 2:
                return told.people;
            case 3:
                return told.meetings;
            case 4:
                return now.countValid();
            case 5:
                return market.inStock(now);
            case 6:
                return now.day;
            case 7:
                return told.commonAt(now.day);
            case 8:
                return now.countCoins(told.people);
            case 9:
                return market.blissOfAll(now);
            case 10:
                return now.keeps;
            case 11:
                return past.size;
            case 12:
                return seed;
            default:
                return NONE;
        }
    }

    public int letter(int kind, int which, int k) {
        if (k < 0 || k >= LETTERS) {
            return NONE;
        }
        if (kind == 0 && isFact(which)) {
            return letterOf(market.told.factName[which], k);
        }
        if (kind == 1 && isPerson(which)) {
            return letterOf(market.told.personName[which], k);
        }
        return NONE;
    }

    public int fact(int fact, int what) {
        if (!isFact(fact)) {
            return NONE;
        }
        Capital told = market.told;
        switch (what) {
            case 0:
                return told.factDay[fact];
            case 1:
                return told.worth[fact];
            case 2:
                return countWith(now.knows, fact);
            case 3:
                return countWith(now.valid, fact);
            case 4:
                return told.countGiving(fact);
            case 5:
                return told.neededFor(fact);
            default:
                return NONE;
        }
    }

    public int rule(int rule, int what) {
        if (rule < 0 || rule >= market.told.rules) {
            return NONE;
        }
        switch (what) {
            case 0:
                return market.told.ruleFact[rule];
            case 1:
                return market.told.ruleFrom[rule];
            default:
                return NONE;
        }
    }

    public int person(int person, int what) {
        if (!isPerson(person)) {
            return NONE;
        }
        switch (what) {
            case 0:
                return market.told.street[person];
            case 1:
                return now.purse[person];
            case 2:
                return now.knows[person];
            case 3:
                return now.valid[person];
            case 4:
                return market.blissOf(now, person);
            case 5:
                return now.countKeptOf(person);
            default:
                return NONE;
        }
    }

    public int licence(int person, int fact) {
        if (!isPerson(person) || !isFact(fact) || !now.isValid(person, fact)) {
            return NONE;
        }
        return now.till[person * FACTS + fact];
    }

    public int price(int person, int fact, int n) {
        if (!isPerson(person) || !isFact(fact) || n < 1 || n > MOST_BOUGHT) {
            return NONE;
        }
        return market.priceOf(now, person, fact, n);
    }

    // ---- acts

    public int buy(int person, int fact, int n) {
        if (!canBuy(person, fact, n)) {
            return refuse(2);
        }
        int cost = market.priceOf(now, person, fact, n);
        if (cost > now.purse[person]) {
            return refuse(2);
        }
        past.remember(now);
        now.take(person, fact, n, cost);
        return cost;
    }

    public boolean back(int person, int fact) {
        if (!isPerson(person) || !isFact(fact) || !now.isValid(person, fact)) {
            refuse(2);
            return false;
        }
        past.remember(now);
        now.giveBack(person, fact);
        return true;
    }

    public int word(int person, int fact) {
        if (!isPerson(person) || !isFact(fact) || !now.isOpenTo(person, fact)) {
            return refuse(2);
        }
        past.remember(now);
        return market.hearAtDoor(now, person, fact);
    }

    public int days(int n) {
        if (!canGoBy(n)) {
            return refuse(3);
        }
        past.remember(now);
        now.countAnew();
        for (int k = 0; k < n; k++) {
            market.nextDay(now);
        }
        return now.breaches;
    }

    public int rumours(int n) {
        if (!canGoBy(n)) {
            return refuse(3);
        }
        past.remember(now);
        now.countAnew();
        for (int k = 0; k < n; k++) {
            market.nextDay(now);
            spreadRumour();
        }
        return now.breaches;
    }

    public boolean undo() {
        if (past.size == 0) {
            refuse(4);
            return false;
        }
        past.bringBack(now);
        return true;
    }

    public boolean seed(int seed) {
        if (seed < 0) {
            refuse(5);
            return false;
        }
        this.seed = seed;
        return true;
    }

    public int kept(int k, int what) {
        if (k < 0 || k >= now.keeps) {
            return NONE;
        }
        return partOfBreach(now.kept[k], what);
    }

    // ---- ahead

    public int when(int person, int fact) {
        if (!isPerson(person) || !isFact(fact)) {
            return NONE;
        }
        lookAhead();
        for (int k = 0; k < AHEAD && later.day < LAST_DAY; k++) {
            if (later.doesKnow(person, fact)) {
                return later.day;
            }
            market.nextDay(later);
        }
        return later.doesKnow(person, fact) ? later.day : NONE;
    }

    public int breach(int what) {
        lookAhead();
        for (int k = 0; k < AHEAD && later.day < LAST_DAY && later.breaches == 0; k++) {
            market.nextDay(later);
        }
        return later.breaches == 0 ? NONE : partOfBreach(later.firstBreach, what);
    }

    public int bliss(int person, int n) {
        if (!isPerson(person) || !isAhead(n)) {
            return NONE;
        }
        goAhead(n);
        return market.blissOf(later, person);
    }

    public int surprise(int people, int fact, int n) {
        if (people < 0 || people >= 1 << market.told.people || !isFact(fact) || !isAhead(n)) {
            return NONE;
        }
        goAhead(n);
        for (int p = 0; p < market.told.people; p++) {
            if ((people >> p & 1) == 1 && later.doesKnow(p, fact)) {
                return 0;
            }
        }
        return 1;
    }

    // ---- what follows

    public int follows(int facts) {
        return areFacts(facts) ? market.told.closed(facts) : NONE;
    }

    public int by(int facts, int fact, int k) {
        if (!areFacts(facts) || !isFact(fact) || k < NONE) {
            return NONE;
        }
        int size = questions.prove(market.told, facts, fact);
        if (k == NONE || size == NONE) {
            return size;
        }
        return k < size ? questions.proof[k] : NONE;
    }

    public int barred(int facts, int fact, int what) {
        if (!areFacts(facts) || !isFact(fact) || what < 0 || what > 1) {
            return NONE;
        }
        Arrays.fill(questions.cost, 1);
        int bits = questions.leastCut(market.told, facts, fact);
        return what == 0 ? Integer.bitCount(bits) : bits;
    }

    public int cheapest(int person, int fact, int day, int what) {
        if (!isPerson(person) || !isFact(fact) || day < 0 || day > LAST_DAY) {
            return NONE;
        }
        if (what < 0 || what > 1) {
            return NONE;
        }
        questions.askPrices(market, now, person);
        int bits = questions.leastCut(market.told, market.told.commonAt(day), fact);
        return what == 0 ? questions.costOf(bits) : bits;
    }

    public int seeded(int n, int k) {
        if (!isAhead(n) || k < NONE) {
            return NONE;
        }
        int who = questions.seeds(market.told, now.day, n);
        if (who == NONE) {
            return NONE;
        }
        return k == NONE ? Integer.bitCount(who) : questions.seedAt(who, k);
    }

    public int face(int n, int what) {
        if (n < 0 || what < 0 || what > 2) {
            return NONE;
        }
        questions.lookAtFace(market.told, now.day, n);
        if (what == 0) {
            return questions.sets;
        }
        return what == 1 ? questions.inAll : questions.inSome;
    }

    public int rest(int what) {
        if (what < 0 || what > 3) {
            return NONE;
        }
        lookAhead();
        questions.comeToRest(market, later);
        switch (what) {
            case 0:
                return questions.rounds;
            case 1:
                return questions.bought;
            case 2:
                return questions.spent;
            default:
                return market.inStock(later);
        }
    }

    // ---- images, refusals

    public int image() {
        picture.draw(market.told, now);
        return picture.size;
    }

    public int octet(int k) {
        return k < 0 || k >= picture.size ? NONE : picture.bytes[k] & 255;
    }

    public boolean on() {
        int length = taped;
        taped = 0;
        later.clear();
        if (!Picture.isRead(tape, length, market.told, later)) {
            refuse(5);
            return false;
        }
        now.copyFrom(later);
        past.forget();
        return true;
    }

    public int status(int what) {
        return what < 0 || what >= refused.length ? NONE : refused[what];
    }

    // ---- helpers of the face

    private int refuse(int sort) {
        refused[sort]++;
        return NONE;
    }

    private void putNumber(int number) {
        for (int shift = 24; shift >= 0; shift -= 8) {
            if (taped < TAPE) {
                tape[taped] = (byte) (number >> shift);
                taped++;
            }
        }
    }

    private boolean isFact(int fact) {
        return fact >= 0 && fact < market.told.facts;
    }

    private boolean areFacts(int facts) {
        return facts >= 0 && facts < 1 << market.told.facts;
    }

    private boolean isPerson(int person) {
        return person >= 0 && person < market.told.people;
    }

    private boolean isAhead(int n) {
        return n >= 0 && n <= AHEAD && now.day + n <= LAST_DAY;
    }

    private boolean canGoBy(int n) {
        return n >= 1 && n <= MOST_AT_ONCE && now.day + n <= LAST_DAY;
    }

    private boolean canBuy(int person, int fact, int n) {
        return isPerson(person) && isFact(fact) && now.isOpenTo(person, fact)
            && n >= 1 && n <= MOST_BOUGHT && now.day + n - 1 <= LAST_DAY
            && market.inStock(now) > 0;
    }

    private void lookAhead() {
        later.copyFrom(now);
        later.countAnew();
    }

    private void goAhead(int n) {
        lookAhead();
        for (int k = 0; k < n; k++) {
            market.nextDay(later);
        }
    }

    private void spreadRumour() {
        if (market.told.people == 0 || market.told.facts == 0) {
            return;
        }
        int who = draw(market.told.people);
        int what = draw(market.told.facts);
        int heard = draw(2);
        if (heard == 1 && now.isOpenTo(who, what)) {
            market.hearAtDoor(now, who, what);
        }
    }

    /** A DRAW of m; int arithmetic loses only what mod 2 to the 31 takes away. */
    private int draw(int m) {
        seed = (1103515245 * seed + 12345) & 0x7fffffff;
        return m > 0 ? seed / 64 % m : 0;
    }

    private static int letterOf(int name, int k) {
        return name >> 5 * k & 31;
    }

    private static int countWith(int[] bits, int fact) {
        int count = 0;
        for (int p = 0; p < bits.length; p++) {
            count += bits[p] >> fact & 1;
        }
        return count;
    }

    /** A BREACH is one number: DAY, then four bits each of PERSON, FACT, RULE. */
    private static int packBreach(int day, int person, int fact, int rule) {
        return day << 12 | person << 8 | fact << 4 | rule;
    }

    private static int partOfBreach(int breach, int what) {
        switch (what) {
            case 0:
                return breach >> 12;
            case 1:
                return breach >> 8 & 15;
            case 2:
                return breach >> 4 & 15;
            case 3:
                return breach & 15;
            default:
                return NONE;
        }
    }

    /** What a text tells; it does not change when DAYS go by. */
    private static final class Capital {
        private static final int[] NOT_TOLD = {};

        final int[] factName = new int[FACTS];
        final int[] factDay = new int[FACTS];
        final int[] worth = new int[FACTS];
        int facts;
        final int[] ruleFact = new int[RULES];
        final int[] ruleFrom = new int[RULES];
        int rules;
        final int[] personName = new int[PEOPLE];
        final int[] street = new int[PEOPLE];
        final int[] purse = new int[PEOPLE];
        int people;
        final int[] meetFirst = new int[MEETINGS];
        final int[] meetSecond = new int[MEETINGS];
        final int[] meetDay = new int[MEETINGS];
        int meetings;
        final int[] till = new int[PEOPLE * FACTS];
        int licences;
        int stock = STOCK;
        int[] priceCode = NOT_TOLD;
        int[] tellsCode = NOT_TOLD;

        void clear() {
            facts = 0;
            rules = 0;
            people = 0;
            meetings = 0;
            Arrays.fill(till, NONE);
            licences = 0;
            stock = STOCK;
            priceCode = NOT_TOLD;
            tellsCode = NOT_TOLD;
        }

        int allFacts() {
            return (1 << facts) - 1;
        }

        int commonAt(int day) {
            int bits = 0;
            for (int f = 0; f < facts; f++) {
                if (factDay[f] <= day) {
                    bits |= 1 << f;
                }
            }
            return bits;
        }

        int worthOf(int bits) {
            int sum = 0;
            for (int f = 0; f < facts; f++) {
                if ((bits >> f & 1) == 1) {
                    sum += worth[f];
                }
            }
            return sum;
        }

        int countGiving(int fact) {
            int count = 0;
            for (int r = 0; r < rules; r++) {
                if (ruleFact[r] == fact) {
                    count++;
                }
            }
            return count;
        }

        int neededFor(int fact) {
            int bits = 0;
            for (int r = 0; r < rules; r++) {
                if ((ruleFrom[r] >> fact & 1) == 1) {
                    bits |= 1 << ruleFact[r];
                }
            }
            return bits;
        }

        boolean givesNew(int rule, int known) {
            int from = ruleFrom[rule];
            return (known & from) == from && (known >> ruleFact[rule] & 1) == 0;
        }

        boolean isClosed(int known) {
            for (int r = 0; r < rules; r++) {
                if (givesNew(r, known)) {
                    return false;
                }
            }
            return true;
        }

        int closed(int bits) {
            int known = bits;
            for (int pass = 0; pass < FACTS; pass++) {
                int before = known;
                for (int r = 0; r < rules; r++) {
                    if (givesNew(r, known)) {
                        known |= 1 << ruleFact[r];
                    }
                }
                if (known == before) {
                    break;
                }
            }
            return known;
        }
    }

    /** All that ACTS change, but for the seed. */
    private static final class State {
        int day;
        final int[] knows = new int[PEOPLE];
        final int[] purse = new int[PEOPLE];
        final int[] till = new int[PEOPLE * FACTS];
        /** The licences that are VALID on this DAY, as bits of FACTS. */
        final int[] valid = new int[PEOPLE];
        final int[] kept = new int[KEPT];
        int keeps;
        /** BREACHES since the last countAnew(), of which KEPT may have lost the first. */
        int breaches;
        int firstBreach;

        State() {
            Arrays.fill(till, NONE);
        }

        void clear() {
            day = 0;
            Arrays.fill(knows, 0);
            Arrays.fill(purse, 0);
            Arrays.fill(till, NONE);
            Arrays.fill(valid, 0);
            keeps = 0;
            countAnew();
        }

        void copyFrom(State other) {
            day = other.day;
            System.arraycopy(other.knows, 0, knows, 0, PEOPLE);
            System.arraycopy(other.purse, 0, purse, 0, PEOPLE);
            System.arraycopy(other.till, 0, till, 0, PEOPLE * FACTS);
            System.arraycopy(other.valid, 0, valid, 0, PEOPLE);
            System.arraycopy(other.kept, 0, kept, 0, KEPT);
            keeps = other.keeps;
        }

        void countAnew() {
            breaches = 0;
            firstBreach = NONE;
        }

        boolean doesKnow(int person, int fact) {
            return (knows[person] >> fact & 1) == 1;
        }

        boolean isValid(int person, int fact) {
            return (valid[person] >> fact & 1) == 1;
        }

        boolean isOpenTo(int person, int fact) {
            return !doesKnow(person, fact) && !isValid(person, fact);
        }

        void findValid() {
            for (int p = 0; p < PEOPLE; p++) {
                int bits = 0;
                for (int f = 0; f < FACTS; f++) {
                    if (till[p * FACTS + f] >= day) {
                        bits |= 1 << f;
                    }
                }
                valid[p] = bits;
            }
        }

        int countValid() {
            int count = 0;
            for (int p = 0; p < PEOPLE; p++) {
                count += Integer.bitCount(valid[p]);
            }
            return count;
        }

        int countCoins(int people) {
            int coins = 0;
            for (int p = 0; p < people && p < PEOPLE; p++) {
                coins += purse[p];
            }
            return coins;
        }

        int countKeptOf(int person) {
            int count = 0;
            for (int k = 0; k < keeps && k < KEPT; k++) {
                if (partOfBreach(kept[k], 1) == person) {
                    count++;
                }
            }
            return count;
        }

        void take(int person, int fact, int n, int cost) {
            till[person * FACTS + fact] = day + n - 1;
            valid[person] |= 1 << fact;
            purse[person] -= cost;
        }

        void giveBack(int person, int fact) {
            till[person * FACTS + fact] = NONE;
            valid[person] &= ~(1 << fact);
        }

        void infer(int person, int fact, int rule) {
            if (isValid(person, fact)) {
                keep(packBreach(day, person, fact, rule));
            }
            knows[person] |= 1 << fact;
        }

        private void keep(int breach) {
            if (breaches == 0) {
                firstBreach = breach;
            }
            breaches++;
            if (keeps == KEPT) {
                System.arraycopy(kept, 1, kept, 0, KEPT - 1);
                keeps--;
            }
            kept[keeps] = breach;
            keeps++;
        }
    }

    /** What was ahead of the last ACTS; the oldest gives way. */
    private static final class Past {
        private final State[] states = new State[UNDONE];
        private int next;
        int size;

        Past() {
            for (int k = 0; k < UNDONE; k++) {
                states[k] = new State();
            }
        }

        void forget() {
            size = 0;
        }

        void remember(State state) {
            states[next].copyFrom(state);
            next = (next + 1) % UNDONE;
            size = Math.min(size + 1, UNDONE);
        }

        void bringBack(State state) {
            if (size > 0) {
                next = (next + UNDONE - 1) % UNDONE;
                size--;
                state.copyFrom(states[next]);
            }
        }
    }

    /** How DAYS go by, and what a licence costs, by THE CAPITAL. */
    private static final class Market {
        Capital told = new Capital();
        private final Sums sums = new Sums();

        void setOut(State s) {
            s.clear();
            System.arraycopy(told.till, 0, s.till, 0, PEOPLE * FACTS);
            for (int p = 0; p < told.people; p++) {
                s.purse[p] = told.purse[p];
            }
            s.day = -1; // so that the next one is DAY 0
            nextDay(s);
        }

        void nextDay(State s) {
            s.day++;
            s.findValid();
            int common = told.commonAt(s.day);
            for (int p = 0; p < told.people; p++) {
                s.knows[p] |= common & ~s.valid[p];
            }
            for (int p = 0; p < told.people; p++) {
                inferAll(s, p);
            }
            int dayOfWeek = s.day % WEEK;
            for (int m = 0; m < told.meetings; m++) {
                if (told.meetDay[m] == dayOfWeek) {
                    meet(s, told.meetFirst[m], told.meetSecond[m]);
                }
            }
        }

        private void meet(State s, int first, int second) {
            int fresh = s.knows[first] & ~s.knows[second] & ~s.valid[second];
            if (told.tellsCode.length > 0) {
                lookAt(s, first);
                sums.other = told.street[second];
                fresh = onesToTell(fresh);
            }
            s.knows[second] |= fresh;
            inferAll(s, second);
        }

        private int onesToTell(int fresh) {
            int heard = 0;
            for (int f = 0; f < told.facts; f++) {
                if ((fresh >> f & 1) == 1) {
                    sums.worth = told.worth[f];
                    heard |= sums.value(told.tellsCode) << f;
                }
            }
            return heard;
        }

        private void inferAll(State s, int person) {
            for (int pass = 0; pass < FACTS; pass++) {
                int before = s.knows[person];
                for (int r = 0; r < told.rules; r++) {
                    if (told.givesNew(r, s.knows[person])) {
                        s.infer(person, told.ruleFact[r], r);
                    }
                }
                if (s.knows[person] == before) {
                    break;
                }
            }
        }

        /** How many FACTS he learned by the word. */
        int hearAtDoor(State s, int person, int fact) {
            int before = Integer.bitCount(s.knows[person]);
            s.knows[person] |= 1 << fact;
            inferAll(s, person);
            return Integer.bitCount(s.knows[person]) - before;
        }

        int inStock(State s) {
            return told.stock - s.countValid();
        }

        int blissOf(State s, int person) {
            return told.worthOf(told.commonAt(s.day) & ~s.knows[person]);
        }

        int blissOfAll(State s) {
            int sum = 0;
            for (int p = 0; p < told.people; p++) {
                sum += blissOf(s, p);
            }
            return sum;
        }

        int priceOf(State s, int person, int fact, int n) {
            if (told.priceCode.length == 0) {
                return 0;
            }
            lookAt(s, person);
            sums.worth = told.worth[fact];
            sums.days = n;
            return Math.max(0, Math.min(MOST_COINS, sums.value(told.priceCode)));
        }

        private void lookAt(State s, int person) {
            sums.day = s.day;
            sums.street = told.street[person];
            sums.other = 0;
            sums.left = inStock(s);
            sums.days = 0;
            sums.holds = Integer.bitCount(s.valid[person]);
            sums.knows = Integer.bitCount(s.knows[person]);
        }
    }

    /** What words and signs of a text are; the codes of SUMS and TESTS use the same numbers. */
    private static final class Kinds {
        /** One OWN WORD in each eight columns, in the order of their numbers. */
        static final String OWN_WORDS =
            "fact    day     worth   rule    from    person  street  purse   meets   on      licence till    price   tells   stock   other   left    days    holds   knows   or      and     not     all     min     max     ";
        static final int COLUMNS = 8;

        static final int FACT = 0;
        static final int DAY = 1;
        static final int WORTH = 2;
        static final int RULE = 3;
        static final int FROM = 4;
        static final int PERSON = 5;
        static final int STREET = 6;
        static final int PURSE = 7;
        static final int MEETS = 8;
        static final int ON = 9;
        static final int LICENCE = 10;
        static final int TILL = 11;
        static final int PRICE = 12;
        static final int TELLS = 13;
        static final int STOCK_WORD = 14;
        static final int OTHER = 15;
        static final int LEFT = 16;
        static final int DAYS = 17;
        static final int HOLDS = 18;
        static final int KNOWS = 19;
        static final int OR = 20;
        static final int AND = 21;
        static final int NOT = 22;
        static final int ALL = 23;
        static final int MIN = 24;
        static final int MAX = 25;
        static final int OWN = 26;

        static final int NAME = 26;
        static final int NUMBER = 27;
        static final int END = 28;
        /** A word or number that can stand nowhere. */
        static final int BROKEN = 29;
        /** Any other byte is a sign: this and the byte. */
        static final int SIGN = 100;

        /** In codes NUMBERS stand for themselves, all else is this and its kind. */
        static final int CODE = 10000;
    }

    /** Works out SUMS and TESTS, which are told as codes, operands first. */
    private static final class Sums {
        private static final long BOUND = 1000000;
        /** Far above what seven things open at once can pile up. */
        private static final int PILE = 64;

        int worth;
        int day;
        int street;
        int other;
        int left;
        int days;
        int holds;
        int knows;
        private final int[] pile = new int[PILE];
        private int height;

        int value(int[] code) {
            height = 0;
            for (int k = 0; k < code.length; k++) {
                int kind = code[k] - Kinds.CODE;
                if (kind < 0) {
                    push(code[k]);
                } else if (kind < Kinds.OR || kind == Kinds.ALL) {
                    push(part(kind));
                } else if (kind == Kinds.NOT && height > 0) {
                    pile[height - 1] = 1 - pile[height - 1];
                } else if (height > 1) {
                    height--;
                    pile[height - 1] = bounded(join(kind, pile[height - 1], pile[height]));
                }
            }
            return height > 0 ? pile[0] : 0;
        }

        private void push(int value) {
            if (height < PILE) {
                pile[height] = value;
                height++;
            }
        }

        private int part(int kind) {
            switch (kind) {
                case Kinds.WORTH:
                    return worth;
                case Kinds.DAY:
                    return day;
                case Kinds.STREET:
                    return street;
                case Kinds.OTHER:
                    return other;
                case Kinds.LEFT:
                    return left;
                case Kinds.DAYS:
                    return days;
                case Kinds.HOLDS:
                    return holds;
                case Kinds.KNOWS:
                    return knows;
                default:
                    return 1; // all
            }
        }

        private static long join(int kind, long a, long b) {
            switch (kind) {
                case Kinds.SIGN + '+':
                    return a + b;
                case Kinds.SIGN + '-':
                    return a - b;
                case Kinds.SIGN + '*':
                    return a * b;
                case Kinds.SIGN + '/':
                    return b == 0 ? 0 : Math.floorDiv(a, b);
                case Kinds.SIGN + '%':
                    return b == 0 ? 0 : Math.floorMod(a, b);
                case Kinds.SIGN + '<':
                    return a < b ? 1 : 0;
                case Kinds.SIGN + '>':
                    return a > b ? 1 : 0;
                case Kinds.SIGN + '=':
                    return a == b ? 1 : 0;
                case Kinds.AND:
                    return a & b;
                case Kinds.OR:
                    return a | b;
                case Kinds.MIN:
                    return Math.min(a, b);
                default:
                    return Math.max(a, b);
            }
        }

        private static int bounded(long result) {
            return (int) Math.max(-BOUND, Math.min(BOUND, result));
        }
    }

    /** Reads a text into a Capital, up to its first FAULT. */
    private static final class Reader {
        private static final int OPEN = 7;
        private static final int DIGITS = 4;

        int faultKind;
        int faultPlace = NONE;
        private byte[] text;
        private int length;
        private int at;
        private Capital into;
        /** The word, number or sign that comes next: what it is, and where. */
        private int kind;
        private int value;
        private int start;
        private int faulty;
        /** Whether a word or number ended just ahead, so that no other may touch it. */
        private boolean touching;
        private int first;
        private int open;
        private final int[] code = new int[TAPE];
        private int coded;
        /** The OWN WORDS, five bits a letter, as words of the text are held. */
        private final long[] own = new long[Kinds.OWN];

        Reader() {
            for (int word = 0; word < Kinds.OWN; word++) {
                for (int k = 0; k < Kinds.COLUMNS; k++) {
                    char letter = Kinds.OWN_WORDS.charAt(word * Kinds.COLUMNS + k);
                    if (letter != ' ') {
                        own[word] |= (long) (letter - 'a' + 1) << 5 * k;
                    }
                }
            }
        }

        /** How many STATEMENTS; NONE with a FAULT. */
        int readText(byte[] bytes, int size, Capital capital) {
            text = bytes;
            length = Math.min(size, bytes.length);
            at = 0;
            into = capital;
            into.clear();
            touching = false;
            faultKind = 0;
            faultPlace = NONE;
            readNext();
            int count = 0;
            for (; kind != Kinds.END; count++) {
                if (count >= STATEMENTS) {
                    fail(6, start);
                    return NONE;
                }
                if (!readStatement() || !pass(Kinds.SIGN + ';')) {
                    return NONE;
                }
            }
            return count;
        }

        private boolean fail(int fault, int place) {
            faultKind = fault;
            faultPlace = place;
            return false;
        }

        // -- words, numbers and signs

        private void readNext() {
            int behind = at;
            while (at < length && (text[at] == 10 || text[at] == 32)) {
                at++;
            }
            start = at;
            faulty = at;
            if (at >= length) {
                kind = Kinds.END;
                return;
            }
            boolean touched = touching && start == behind;
            touching = true;
            if (text[at] >= 'a' && text[at] <= 'z') {
                readWord();
            } else if (text[at] >= '0' && text[at] <= '9') {
                readDigits();
            } else {
                kind = Kinds.SIGN + (text[at] & 255);
                at++;
                touching = false;
            }
            if (touched && touching) {
                // The missing blank is ahead of a 7th letter or a 5th digit.
                kind = Kinds.BROKEN;
                faulty = start;
            }
        }

        private void readWord() {
            long word = 0;
            for (; at < length && text[at] >= 'a' && text[at] <= 'z'; at++) {
                if (at - start < Kinds.COLUMNS) {
                    word |= (long) (text[at] - 'a' + 1) << 5 * (at - start);
                }
            }
            kind = Kinds.NAME;
            value = (int) word;
            for (int k = 0; k < Kinds.OWN; k++) {
                if (own[k] == word) {
                    kind = k;
                }
            }
            if (kind == Kinds.NAME && at - start > LETTERS) {
                kind = Kinds.BROKEN;
                faulty = start + LETTERS;
            }
        }

        private void readDigits() {
            value = 0;
            for (; at < length && text[at] >= '0' && text[at] <= '9'; at++) {
                if (at - start < DIGITS) {
                    value = value * 10 + text[at] - '0';
                }
            }
            kind = Kinds.NUMBER;
            if (at - start > DIGITS) {
                kind = Kinds.BROKEN;
                faulty = start + DIGITS;
            }
        }

        // -- what must come next

        private boolean pass(int wanted) {
            if (kind != wanted) {
                return fail(1, faulty);
            }
            readNext();
            return true;
        }

        private int passNumber(int most) {
            if (kind != Kinds.NUMBER) {
                fail(1, faulty);
                return NONE;
            }
            int number = value;
            if (number > most) {
                fail(4, start);
                return NONE;
            }
            readNext();
            return number;
        }

        private int passNewName() {
            if (kind != Kinds.NAME) {
                fail(1, faulty);
                return NONE;
            }
            int name = value;
            if (find(into.factName, into.facts) != NONE || find(into.personName, into.people) != NONE) {
                fail(2, start);
                return NONE;
            }
            readNext();
            return name;
        }

        /** The number of the FACT or PERSON so named, which none of the barred ones may be. */
        private int passName(int[] names, int count, int barred) {
            if (kind != Kinds.NAME) {
                fail(1, faulty);
                return NONE;
            }
            int which = find(names, count);
            if (which == NONE || (barred >> which & 1) == 1) {
                fail(3, start);
                return NONE;
            }
            readNext();
            return which;
        }

        private int find(int[] names, int count) {
            for (int k = 0; k < count && k < names.length; k++) {
                if (names[k] == value) {
                    return k;
                }
            }
            return NONE;
        }

        // -- STATEMENTS

        private boolean readStatement() {
            first = start;
            if (isOneTooMany()) {
                return fail(6, first);
            }
            int word = kind;
            int place = faulty;
            if (word < Kinds.OWN) {
                readNext();
            }
            coded = 0;
            open = 0;
            switch (word) {
                case Kinds.FACT:
                    return readFact();
                case Kinds.RULE:
                    return readRule();
                case Kinds.PERSON:
                    return readPerson();
                case Kinds.MEETS:
                    return readMeeting();
                case Kinds.LICENCE:
                    return readLicence();
                case Kinds.STOCK_WORD:
                    return readStock();
                case Kinds.PRICE:
                    return readSum() && keepPrice();
                case Kinds.TELLS:
                    return readTest() && keepTells();
                default:
                    return fail(1, place);
            }
        }

        private boolean isOneTooMany() {
            switch (kind) {
                case Kinds.FACT:
                    return into.facts >= FACTS;
                case Kinds.RULE:
                    return into.rules >= RULES;
                case Kinds.PERSON:
                    return into.people >= PEOPLE;
                case Kinds.MEETS:
                    return into.meetings >= MEETINGS;
                case Kinds.PRICE:
                    return into.priceCode.length > 0;
                case Kinds.TELLS:
                    return into.tellsCode.length > 0;
                case Kinds.STOCK_WORD:
                    return into.licences > 0;
                default:
                    return false;
            }
        }

        private boolean readFact() {
            int name = passNewName();
            if (name == NONE || !pass(Kinds.DAY)) {
                return false;
            }
            int day = passNumber(LAST_DAY);
            if (day == NONE || !pass(Kinds.WORTH)) {
                return false;
            }
            int worth = passNumber(99);
            if (worth == NONE) {
                return false;
            }
            into.factName[into.facts] = name;
            into.factDay[into.facts] = day;
            into.worth[into.facts] = worth;
            into.facts++;
            return true;
        }

        private boolean readRule() {
            int fact = passName(into.factName, into.facts, 0);
            if (fact == NONE || !pass(Kinds.FROM)) {
                return false;
            }
            int from = 0;
            for (int k = 0; k < FACTS && (k == 0 || kind == Kinds.NAME); k++) {
                int other = passName(into.factName, into.facts, from | 1 << fact);
                if (other == NONE) {
                    return false;
                }
                from |= 1 << other;
            }
            into.ruleFact[into.rules] = fact;
            into.ruleFrom[into.rules] = from;
            into.rules++;
            return true;
        }

        private boolean readPerson() {
            int name = passNewName();
            if (name == NONE || !pass(Kinds.STREET)) {
                return false;
            }
            int street = passNumber(9);
            if (street == NONE || !pass(Kinds.PURSE)) {
                return false;
            }
            int purse = passNumber(MOST_COINS);
            if (purse == NONE) {
                return false;
            }
            into.personName[into.people] = name;
            into.street[into.people] = street;
            into.purse[into.people] = purse;
            into.people++;
            return true;
        }

        private boolean readMeeting() {
            int one = passName(into.personName, into.people, 0);
            if (one == NONE) {
                return false;
            }
            int other = passName(into.personName, into.people, 1 << one);
            if (other == NONE || !pass(Kinds.ON)) {
                return false;
            }
            int day = passNumber(WEEK - 1);
            if (day == NONE) {
                return false;
            }
            into.meetFirst[into.meetings] = one;
            into.meetSecond[into.meetings] = other;
            into.meetDay[into.meetings] = day;
            into.meetings++;
            return true;
        }

        private boolean readLicence() {
            int person = passName(into.personName, into.people, 0);
            if (person == NONE) {
                return false;
            }
            int fact = passKnownFact(person);
            if (fact == NONE || !pass(Kinds.TILL)) {
                return false;
            }
            int till = passNumber(LAST_DAY);
            if (till == NONE) {
                return false;
            }
            if (into.till[person * FACTS + fact] == NONE) {
                into.licences++;
            }
            into.till[person * FACTS + fact] = till;
            return true;
        }

        /**
         * The FACT of a licence. Whether one is left is looked at here, not behind
         * the STATEMENT: that FAULT is ahead of all that may still be wrong in it.
         */
        private int passKnownFact(int person) {
            if (kind == Kinds.NAME) {
                int fact = find(into.factName, into.facts);
                if (fact != NONE && into.till[person * FACTS + fact] == NONE
                    && into.licences >= into.stock) {
                    fail(6, first);
                    return NONE;
                }
            }
            return passName(into.factName, into.facts, 0);
        }

        private boolean readStock() {
            int number = passNumber(99);
            if (number == NONE) {
                return false;
            }
            into.stock = number;
            return true;
        }

        private boolean keepPrice() {
            into.priceCode = Arrays.copyOf(code, coded);
            return true;
        }

        private boolean keepTells() {
            into.tellsCode = Arrays.copyOf(code, coded);
            return true;
        }

        // -- TESTS and SUMS: what is open at once bounds how deep they call one another

        private void put(int number) {
            if (coded < code.length) {
                code[coded] = number;
                coded++;
            }
        }

        private boolean passOpening() {
            if (open >= OPEN) {
                return fail(5, start);
            }
            open++;
            readNext();
            return true;
        }

        private boolean readTest() {
            boolean fine = readBoth();
            for (int k = 0; k < TAPE && fine && kind == Kinds.OR; k++) {
                readNext();
                fine = readBoth();
                put(Kinds.CODE + Kinds.OR);
            }
            return fine;
        }

        private boolean readBoth() {
            boolean fine = readFacet();
            for (int k = 0; k < TAPE && fine && kind == Kinds.AND; k++) {
                readNext();
                fine = readFacet();
                put(Kinds.CODE + Kinds.AND);
            }
            return fine;
        }

        private boolean readFacet() {
            int nots = 0;
            for (; nots <= OPEN && kind == Kinds.NOT; nots++) {
                if (!passOpening()) {
                    return false;
                }
            }
            if (!readPlainFacet()) {
                return false;
            }
            open -= nots;
            if (nots % 2 == 1) {
                put(Kinds.CODE + Kinds.NOT);
            }
            return true;
        }

        private boolean readPlainFacet() {
            if (kind == Kinds.ALL) {
                put(Kinds.CODE + Kinds.ALL);
                readNext();
                return true;
            }
            if (kind == Kinds.SIGN + '[') {
                boolean fine = passOpening() && readTest() && pass(Kinds.SIGN + ']');
                open--;
                return fine;
            }
            if (!readSum()) {
                return false;
            }
            int sign = kind;
            if (sign != Kinds.SIGN + '<' && sign != Kinds.SIGN + '>' && sign != Kinds.SIGN + '=') {
                return fail(1, faulty);
            }
            readNext();
            if (!readSum()) {
                return false;
            }
            put(Kinds.CODE + sign);
            return true;
        }

        private boolean readSum() {
            boolean fine = readProduct();
            for (int k = 0; k < TAPE && fine && isEither('+', '-', '-'); k++) {
                int sign = kind;
                readNext();
                fine = readProduct();
                put(Kinds.CODE + sign);
            }
            return fine;
        }

        private boolean readProduct() {
            boolean fine = readPart();
            for (int k = 0; k < TAPE && fine && isEither('*', '/', '%'); k++) {
                int sign = kind;
                readNext();
                fine = readPart();
                put(Kinds.CODE + sign);
            }
            return fine;
        }

        private boolean isEither(char one, char two, char three) {
            int sign = kind - Kinds.SIGN;
            return sign == one || sign == two || sign == three;
        }

        private boolean readPart() {
            switch (kind) {
                case Kinds.NUMBER:
                    put(value);
                    readNext();
                    return true;
                case Kinds.WORTH:
                case Kinds.DAY:
                case Kinds.STREET:
                case Kinds.OTHER:
                case Kinds.LEFT:
                case Kinds.DAYS:
                case Kinds.HOLDS:
                case Kinds.KNOWS:
                    put(Kinds.CODE + kind);
                    readNext();
                    return true;
                case Kinds.SIGN + '(':
                    return readInner();
                case Kinds.MIN:
                case Kinds.MAX:
                    return readPair();
                default:
                    return fail(1, faulty);
            }
        }

        private boolean readInner() {
            boolean fine = passOpening() && readSum() && pass(Kinds.SIGN + ')');
            open--;
            return fine;
        }

        private boolean readPair() {
            int word = kind;
            readNext();
            if (kind != Kinds.SIGN + '(') {
                return fail(1, faulty);
            }
            boolean fine = passOpening() && readSum() && pass(Kinds.SIGN + ',')
                && readSum() && pass(Kinds.SIGN + ')');
            open--;
            put(Kinds.CODE + word);
            return fine;
        }
    }

    /** What is asked of THE CAPITAL: what follows, whom to tell, where buying rests. */
    private static final class Questions {
        private static final int MOST_SEEDS = 3;
        private static final int BOUGHT_FOR = 7;

        /** The RULES of the latest proof, in their row. */
        final int[] proof = new int[FACTS];
        /** What it costs to bar each FACT. */
        final int[] cost = new int[FACTS];
        int sets;
        int inAll;
        int inSome;
        int rounds;
        int bought;
        int spent;

        /** Writes the proof of a FACT from others: how many RULES; NONE without one. */
        int prove(Capital c, int facts, int fact) {
            int size = writeRow(c, facts);
            int needed = 1 << fact;
            if (((facts | givenBy(c, size)) & needed) == 0) {
                return NONE;
            }
            for (int k = size - 1; k >= 0; k--) {
                int r = proof[k];
                if ((needed >> c.ruleFact[r] & 1) == 0) {
                    proof[k] = NONE;
                } else {
                    needed |= c.ruleFrom[r];
                }
            }
            return dropGaps(size);
        }

        private int writeRow(Capital c, int facts) {
            int known = facts;
            int size = 0;
            for (int pass = 0; pass < FACTS; pass++) {
                for (int r = 0; r < c.rules; r++) {
                    if (size < FACTS && c.givesNew(r, known)) {
                        known |= 1 << c.ruleFact[r];
                        proof[size] = r;
                        size++;
                    }
                }
            }
            return size;
        }

        private int givenBy(Capital c, int size) {
            int bits = 0;
            for (int k = 0; k < size; k++) {
                bits |= 1 << c.ruleFact[proof[k]];
            }
            return bits;
        }

        private int dropGaps(int size) {
            int left = 0;
            for (int k = 0; k < size; k++) {
                if (proof[k] != NONE) {
                    proof[left] = proof[k];
                    left++;
                }
            }
            return left;
        }

        /** The FACTS of least cost without which one does not follow from the others. */
        int leastCut(Capital c, int facts, int fact) {
            int some = facts & ~(1 << fact);
            int best = some;
            int least = costOf(some);
            int cut = 0;
            // The cuts come by their bits upwards, so that of like ones the first stays.
            for (int k = 0; k < 1 << FACTS; k++) {
                int price = costOf(cut);
                boolean better = price < least || price == least && cut < best;
                if (better && (c.closed(some & ~cut) >> fact & 1) == 0) {
                    best = cut;
                    least = price;
                }
                cut = cut - some & some;
                if (cut == 0) {
                    break;
                }
            }
            return best;
        }

        int costOf(int bits) {
            int sum = 0;
            for (int f = 0; f < FACTS; f++) {
                if ((bits >> f & 1) == 1) {
                    sum += cost[f];
                }
            }
            return sum;
        }

        void askPrices(Market market, State s, int person) {
            for (int f = 0; f < market.told.facts; f++) {
                cost[f] = s.isValid(person, f) ? 0 : market.priceOf(s, person, f, BOUGHT_FOR);
            }
        }

        /**
         * The PEOPLE to tell, as bits; NONE when three are not enough. Here a
         * PERSON's bit is the higher, the lower his number: so of sets of one
         * size the greatest is the first by PEOPLE.
         */
        int seeds(Capital c, int day, int n) {
            int all = 0;
            for (int p = 0; p < c.people; p++) {
                all |= seedBit(p);
            }
            if (all == 0) {
                return 0;
            }
            for (int size = 1; size <= MOST_SEEDS; size++) {
                for (int who = all; who > 0; who = who - 1 & all) {
                    if (Integer.bitCount(who) == size && reached(c, who, day, n) == all) {
                        return who;
                    }
                }
            }
            return NONE;
        }

        int seedAt(int who, int k) {
            int count = 0;
            for (int p = 0; p < PEOPLE; p++) {
                if ((who & seedBit(p)) != 0) {
                    if (count == k) {
                        return p;
                    }
                    count++;
                }
            }
            return NONE;
        }

        private static int seedBit(int person) {
            return 1 << PEOPLE - 1 - person;
        }

        private static int reached(Capital c, int who, int day, int n) {
            int knowing = who;
            for (int d = day + 1; d <= day + n; d++) {
                for (int m = 0; m < c.meetings; m++) {
                    if (c.meetDay[m] == d % WEEK && (knowing & seedBit(c.meetFirst[m])) != 0) {
                        knowing |= seedBit(c.meetSecond[m]);
                    }
                }
            }
            return knowing;
        }

        void lookAtFace(Capital c, int day, int n) {
            int common = c.commonAt(day);
            int all = c.allFacts();
            sets = 0;
            inAll = all;
            inSome = 0;
            for (int known = 0; known <= all; known++) {
                if (c.worthOf(common & ~known) == n && c.isClosed(known)) {
                    sets++;
                    inAll &= known;
                    inSome |= known;
                }
            }
            if (sets == 0) {
                inAll = 0;
            }
        }

        /** PEOPLE buy, in that state, till a round in which nobody does. */
        void comeToRest(Market market, State s) {
            bought = 0;
            spent = 0;
            rounds = 0;
            int before = NONE;
            // Each round but the last one gives at least one licence of these.
            for (int k = 0; k <= PEOPLE * FACTS && before != bought; k++) {
                before = bought;
                rounds++;
                for (int p = 0; p < market.told.people; p++) {
                    buyBest(market, s, p);
                }
            }
        }

        private void buyBest(Market market, State s, int person) {
            if (market.inStock(s) <= 0 || s.day + BOUGHT_FOR - 1 > LAST_DAY) {
                return;
            }
            int wanted = market.told.commonAt(s.day) & ~s.knows[person] & ~s.valid[person];
            int best = NONE;
            int bestPrice = 0;
            int most = 0;
            for (int f = 0; f < market.told.facts; f++) {
                if ((wanted >> f & 1) == 1) {
                    int price = market.priceOf(s, person, f, BOUGHT_FOR);
                    int gain = market.told.worth[f] - price;
                    if (price <= s.purse[person] && gain > most) {
                        best = f;
                        bestPrice = price;
                        most = gain;
                    }
                }
            }
            if (best != NONE) {
                s.take(person, best, BOUGHT_FOR, bestPrice);
                bought++;
                spent += bestPrice;
            }
        }
    }

    /** AN IMAGE: written into its own bytes, read from the tape. */
    private static final class Picture {
        private static final int MOST = 2 + PEOPLE * (4 + 2 * FACTS) + 1;

        final byte[] bytes = new byte[MOST];
        int size;

        void draw(Capital c, State s) {
            size = 0;
            putTwo(s.day);
            for (int p = 0; p < c.people; p++) {
                putTwo(s.knows[p]);
                putTwo(s.purse[p]);
                for (int f = 0; f < c.facts; f++) {
                    putTwo(s.isValid(p, f) ? s.till[p * FACTS + f] + 1 : 0);
                }
            }
            putByte(checkOf(bytes, size));
        }

        private void putTwo(int number) {
            putByte(number >> 8);
            putByte(number);
        }

        private void putByte(int number) {
            if (size < MOST) {
                bytes[size] = (byte) number;
                size++;
            }
        }

        private static int checkOf(byte[] row, int count) {
            int c = 101;
            for (int k = 0; k < count && k < row.length; k++) {
                c = (5 * c + (row[k] & 255)) % 251;
            }
            return c;
        }

        /** Whether these bytes are AN IMAGE of this CAPITAL; they are then in the (cleared) state. */
        static boolean isRead(byte[] row, int length, Capital c, State into) {
            int due = 2 + c.people * (4 + 2 * c.facts) + 1;
            if (length != due || length > row.length) {
                return false;
            }
            if (checkOf(row, length - 1) != (row[length - 1] & 255)) {
                return false;
            }
            into.day = two(row, 0);
            int at = 2;
            for (int p = 0; p < c.people; p++) {
                if (!isPersonRead(row, at, c, into, p)) {
                    return false;
                }
                at += 4 + 2 * c.facts;
            }
            into.findValid();
            return into.day <= LAST_DAY && into.countValid() <= c.stock;
        }

        private static boolean isPersonRead(byte[] row, int at, Capital c, State into, int person) {
            into.knows[person] = two(row, at);
            into.purse[person] = two(row, at + 2);
            for (int f = 0; f < c.facts; f++) {
                int till = two(row, at + 4 + 2 * f) - 1;
                if (till > LAST_DAY) {
                    return false;
                }
                into.till[person * FACTS + f] = till;
            }
            return into.knows[person] <= c.allFacts() && into.purse[person] <= MOST_COINS;
        }

        private static int two(byte[] row, int at) {
            if (at < 0 || at + 1 >= row.length) {
                return 0;
            }
            return (row[at] & 255) << 8 | row[at + 1] & 255;
        }
    }
}
