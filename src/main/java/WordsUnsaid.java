import java.util.NoSuchElementException;

/** A ferryman is paid in words that are not said. The numbered promises stand in ../shared/DOC.md. */
public final class WordsUnsaid {
    public static final int NONE = -1;

    private static final int NEAR = 0;
    private static final int FAR = 1;
    private static final int FIRST_ISLET = 2;
    private static final int MOST_PEOPLE = 6;
    private static final int MOST_THINGS = 10;
    private static final int MOST_IN_ROW = 6;
    private static final int MOST_COINS = 99;
    private static final int MOST_PRESS = 9;
    private static final int SEARCHED = 3;
    private static final int MOST_ROWS = 1000000;
    private static final int ASKED_FIRST = -100;
    private static final int TOO_FEW_WORDS = -200;
    private static final int CERTAIN = 10000;

    private final Text text;
    private final House house;
    private final River river;
    private final Rule rule;
    private final Crossing crossing;
    private final Walk way;
    private final Walk home;
    private final Memory memory;
    private final Act act;
    private final Tale tale;
    private final Fleet fleet;
    private int random;

    public WordsUnsaid() {
        text = new Text();
        house = new House();
        river = new River();
        rule = new Rule();
        crossing = new Crossing(house, river, rule);
        way = new Walk(house, crossing);
        home = new Walk(house, crossing);
        memory = new Memory();
        act = new Act();
        tale = new Tale();
        fleet = new Fleet();
    }

    // ---- the river, the house

    public int sign(int v) {
        return text.add(v) ? text.size : NONE;
    }

    public boolean end(int n) {
        return text.cut(n);
    }

    public int river() {
        int answer = house.onIslets() != 0 ? ASKED_FIRST : river.read(text);
        text.cut(0);
        if (answer >= 0) {
            memory.forgetAll();
        }
        return answer;
    }

    public int house() {
        int answer = house.read(text);
        text.cut(0);
        if (answer > 0) {
            memory.forgetAll();
        }
        return answer;
    }

    public int rule() {
        int answer = rule.read(text);
        text.cut(0);
        return answer;
    }

    public int person(int person, int what) throws NoSuchElementException {
        if (!house.hasPerson(person)) {
            throw new NoSuchElementException("no such person");
        }
        switch (what) {
            case 0: return at(house.hold, person);
            case 1: return at(house.place, person);
            case 2: return house.thingsOf(1 << person);
            case 3: return house.knownBy(person);
            case 4: return house.wordsLeft(house.unsaidOf(1 << person));
            case 5: return at(house.coins, person);
            default: throw new NoSuchElementException("nothing else is told of a person");
        }
    }

    public int thing(int thing, int what) throws NoSuchElementException {
        if (!house.hasThing(thing)) {
            throw new NoSuchElementException("no such thing");
        }
        switch (what) {
            case 0: return at(house.words, thing);
            case 1: return at(house.left, thing);
            case 2: return at(house.press, thing);
            case 3: return at(house.whose, thing);
            case 4: return at(house.about, thing);
            case 5: return at(house.said, thing);
            case 6: return at(house.knows, thing);
            default: throw new NoSuchElementException("nothing else is told of a thing");
        }
    }

    public int islet(int k) {
        return river.hasIslet(k) ? at(river.islets, k) : NONE;
    }

    public int hold(int person, int v) {
        if (!house.hasPerson(person) || v < 1 || v > House.MOST_HOLD) {
            return NONE;
        }
        int before = at(house.hold, person);
        put(house.hold, person, v);
        return before;
    }

    public int sheet(int kind, int n, int f, int step) {
        if (kind < 0 || kind > 3 || n > MOST_THINGS) {
            return NONE;
        }
        boolean missing = kind == 3;
        if (!missing && n < 0) {
            return -2;
        }
        int sum = 0;
        for (int thing = 0; thing < house.things; thing++) {
            int press = missing || thing >= n ? 0 : pressOf(kind, f + thing * step);
            put(house.press, thing, press);
            sum += press;
        }
        return missing ? -3 : sum;
    }

    // ---- crossings

    public int cross(int person, int other, int bank) {
        int answer = embark(person, other, bank);
        if (answer < 0) {
            return answer;
        }
        crossing.go();
        memory.stage(house);
        crossing.settle();
        memory.commit();
        return tellCrossing();
    }

    public int look(int person, int other, int bank) {
        int answer = embark(person, other, bank);
        if (answer < 0) {
            return answer;
        }
        crossing.go();
        return tellCrossing();
    }

    public int say(int person, int thing) {
        memory.stage(house);
        return remembered(house.speak(person, thing));
    }

    public int whisper(int person, int other, int thing) {
        memory.stage(house);
        return remembered(house.passOn(person, other, thing));
    }

    public int sell(int person, int other, int thing) {
        memory.stage(house);
        return remembered(house.trade(person, other, thing));
    }

    public int day() {
        int acts = act.check(text);
        if (acts < 0) {
            text.cut(0);
            return acts;
        }
        memory.stage(house);
        text.open(Act.MOST_SIGNS);
        int done = 0;
        int stuck = 0;
        int bursts = 0;
        for (int k = 0; k < acts && stuck == 0; k++) {
            boolean read = act.readNext(text);
            text.meet(';');
            if (read && (act.isCrossing() ? sail() : gossip()) >= 0) {
                done++;
                bursts += act.isCrossing() && crossing.said != NONE ? 1 : 0;
            } else {
                stuck = 1;
            }
        }
        if (done > 0) {
            memory.commit();
        }
        text.cut(0);
        tale.tell(stuck, bursts);
        return done;
    }

    public int undo() {
        return memory.takeBack(house) ? memory.size : NONE;
    }

    // ---- what one can cross with

    public int far(int person, int bank) {
        return crossing.begin(person, NONE, bank) ? crossing.yards : NONE;
    }

    public int keeps(int person, int thing) {
        if (!house.mayKeepBack(person, thing)) {
            return NONE;
        }
        crossing.aboard = 1 << person;
        int left = at(house.left, thing);
        int most = Math.min(left, River.MOST_YARDS);
        int kept = crossing.kept(thing, left, 0, most);
        tale.tell(kept < most ? crossing.pressure : 0);
        return kept;
    }

    public int fewest(int person, int bank) {
        if (!crossing.begin(person, NONE, bank)) {
            return NONE;
        }
        way.start(Walk.DEEPEST);
        int size = way.findShortest();
        if (size == 0) {
            return -2;
        }
        tale.clear();
        way.tellBest(tale, size);
        return size;
    }

    public int rows(int person, int bank) {
        if (!crossing.begin(person, NONE, bank)) {
            return NONE;
        }
        int over = 0;
        int bursts = 0;
        way.start(SEARCHED);
        for (int k = 0; k < MOST_ROWS && way.next(true); k++) {
            over += way.isOver() ? 1 : 0;
            bursts += way.isBurst() ? 1 : 0;
        }
        tale.tell(bursts);
        return over;
    }

    /** The way back is as long, with the same one aboard: so one crossing serves both. */
    public int back(int person, int bank) {
        if (!crossing.begin(person, NONE, bank) || crossing.from >= FIRST_ISLET) {
            return NONE;
        }
        int best = 2 * SEARCHED + 1;
        int first = SEARCHED + 1;
        boolean deeper = true;
        way.start(SEARCHED);
        for (int k = 0; k < MOST_ROWS && way.next(deeper); k++) {
            deeper = way.isUnderWay();
            int room = best - way.size - (way.size < first ? 0 : 1);
            int second = 0;
            if (way.isOver() && room > 0) {
                way.leaveTo(home);
                home.startOnLeft(Math.min(room, SEARCHED));
                second = home.findShortest();
            }
            if (second > 0) {
                best = way.size + second;
                first = way.size;
                tellBothWays(second);
            }
        }
        return best > 2 * SEARCHED ? -2 : best;
    }

    public int exact(int person, int v) {
        if (!house.hasPerson(person) || v < 1 || v > MOST_THINGS * House.MOST_WORDS) {
            return NONE;
        }
        int mine = house.unsaidOf(1 << person);
        int smallest = NONE;
        int greatest = NONE;
        int sets = 0;
        for (int set = 1; set < 1 << MOST_THINGS; set++) {
            if ((set & ~mine) == 0 && house.wordsLeft(set) == v) {
                sets++;
                int size = Integer.bitCount(set);
                smallest = smallest == NONE || size < Integer.bitCount(smallest) ? set : smallest;
                greatest = greatest == NONE || size > Integer.bitCount(greatest) ? set : greatest;
            }
        }
        tale.tell(smallest, greatest);
        return sets;
    }

    public int chance(int person, int bank) {
        int answer = embark(person, NONE, bank);
        if (answer < 0) {
            return answer;
        }
        int likely = CERTAIN;
        int worst = NONE;
        int fewestOdds = 10;
        int yard = 0;
        for (int k = 0; k < crossing.size; k++) {
            int thing = at(crossing.row, k);
            int most = Math.min(at(house.left, thing), crossing.yards - yard);
            for (int t = 0; t < most; t++) {
                int odds = crossing.oddsOfTen(thing, t, yard);
                if (odds < fewestOdds) {
                    fewestOdds = odds;
                    worst = yard;
                }
                likely = likely * odds / 10;
                yard++;
            }
        }
        tale.tell(worst);
        return likely;
    }

    // ---- parties

    public int party(int those) {
        int from = house.placeOfAll(those);
        if (from != NEAR && from != FAR) {
            return NONE;
        }
        fleet.clear();
        for (int p = 0; p < MOST_PEOPLE; p++) {
            for (int other = p; other < MOST_PEOPLE; other++) {
                if (has(those, p) && has(those, other)) {
                    crossing.load(1 << p | 1 << other, from, FAR - from);
                    way.start(SEARCHED);
                    fleet.pair(p, other, way.findShortest() > 0);
                }
            }
        }
        int fewest = fleet.countBoats(those);
        if (fewest > MOST_PEOPLE) {
            return -2;
        }
        fleet.tellBoats(those, tale);
        return fewest;
    }

    public int pool(int person, int bank) {
        if (!crossing.begin(person, NONE, bank)) {
            return NONE;
        }
        int from = crossing.from;
        way.start(SEARCHED);
        int alone = way.findShortest();
        int best = SEARCHED + 1;
        int with = NONE;
        for (int other = 0; other < house.people; other++) {
            if (crossing.begin(person, other, bank)) {
                way.start(best - 1);
                int size = way.findShortest();
                if (size > 0) {
                    best = size;
                    with = other;
                }
            }
        }
        if (with == NONE) {
            return -2;
        }
        tale.tell(best, alone == 0 ? NONE : alone);
        return with;
    }

    // ---- what is known

    public int known(int place) {
        if (!river.hasPlace(place)) {
            return NONE;
        }
        int bySome = 0;
        int byAll = ~0;
        for (int p = 0; p < house.people; p++) {
            if (at(house.place, p) == place) {
                bySome |= house.knownBy(p);
                byAll &= house.knownBy(p);
            }
        }
        tale.tell(house.peopleAt(place) == 0 ? 0 : byAll);
        return bySome;
    }

    public int sayable(int person) {
        if (!house.hasPerson(person)) {
            return NONE;
        }
        int those = 0;
        int more = 0;
        for (int thing = 0; thing < house.things; thing++) {
            if (house.whyNotSay(person, thing) == 0) {
                those |= 1 << thing;
                more += Integer.bitCount(house.newTo(person, thing));
            }
        }
        tale.tell(more);
        return those;
    }

    public int apart() {
        int near = house.knownAt(NEAR);
        int far = house.knownAt(FAR);
        tale.tell(near & ~far, far & ~near);
        return near ^ far;
    }

    public int spared() {
        int best = NONE;
        int fewest = 0;
        for (int p = 0; p < house.people; p++) {
            int count = house.knowersOfThingsAbout(p);
            if (count != NONE && (best == NONE || count < fewest)) {
                best = p;
                fewest = count;
            }
        }
        if (best == NONE) {
            return -2;
        }
        tale.tell(fewest);
        return best;
    }

    // ---- islets

    public int ashore(int person, int k) {
        if (!river.hasIslet(k) || !leavesBank(person)) {
            return NONE;
        }
        tale.clear();
        int found = 0;
        way.start(SEARCHED);
        for (int n = 0; n < MOST_ROWS && way.next(true); n++) {
            if (endsOn(k)) {
                if (found == 0) {
                    way.tellRow(tale);
                }
                found++;
            }
        }
        return found;
    }

    public int about(int person, int k) {
        if (!river.hasIslet(k) || !leavesBank(person)) {
            return NONE;
        }
        way.clearCounts();
        way.start(SEARCHED);
        for (int n = 0; n < MOST_ROWS && way.next(true); n++) {
            if (endsOn(k)) {
                way.countSaid();
            }
        }
        return way.tellCounts(tale);
    }

    // ---- gossip, years

    public int bargain(int person, int other) {
        if (!house.hasPerson(person) || !house.hasPerson(other) || person == other
                || at(house.place, person) != at(house.place, other)) {
            return NONE;
        }
        int best = NONE;
        int bestPrice = 1;
        int bestLeft = 0;
        for (int thing = 0; thing < house.things; thing++) {
            int left = at(house.left, thing);
            int price = house.price(thing);
            if (house.whyNotSell(person, other, thing) == 0 && left * bestPrice > bestLeft * price) {
                best = thing;
                bestPrice = price;
                bestLeft = left;
            }
        }
        if (best == NONE) {
            return -2;
        }
        tale.tell(bestPrice, bestLeft);
        return best;
    }

    public int years(int seed, int n) {
        if (n < 1 || n > 40) {
            return NONE;
        }
        if (house.people == 0) {
            return -2;
        }
        random = seed;
        int over = 0;
        int bursts = 0;
        memory.stage(house);
        for (int k = 0; k < n; k++) {
            int person = draw(house.people);
            int thing = draw(MOST_THINGS);
            if (crossesBy(person, thing)) {
                over += crossing.said == NONE ? 1 : 0;
                bursts += crossing.said == NONE ? 0 : 1;
            }
        }
        tale.tell(over, house.saidThings());
        memory.unstage(house);
        return bursts;
    }

    // ---- kept

    public boolean keep(int i) {
        return memory.keepUnder(i, house);
    }

    public boolean again(int i) {
        return memory.bringBack(i, house);
    }

    public int count(int what) {
        switch (what) {
            case 0: return house.people;
            case 1: return house.things;
            case 2: return river.size;
            case 3: return river.yards;
            case 4: return house.peopleAt(NEAR);
            case 5: return house.peopleAt(FAR);
            case 6: return house.onIslets();
            case 7: return house.saidThings();
            case 8: return house.wordsLeft((1 << house.things) - 1);
            case 9: return memory.size;
            case 10: return tale.size;
            case 11: return text.size;
            default: return NONE;
        }
    }

    public int row(int i) throws NoSuchElementException {
        if (i < 0 || i >= tale.size) {
            throw new NoSuchElementException("the row has no such number");
        }
        return at(tale.numbers, i);
    }

    // ---- what the calls share

    /** Every row is read through here, so that no index leaves it: what is not there counts as 0. */
    private static int at(int[] numbers, int i) {
        return i >= 0 && i < numbers.length ? numbers[i] : 0;
    }

    private static void put(int[] numbers, int i, int v) {
        if (i >= 0 && i < numbers.length) {
            numbers[i] = v;
        }
    }

    private static boolean has(int bits, int i) {
        return i >= 0 && i < 32 && (bits >>> i & 1) == 1;
    }

    private static int firstOf(int bits) {
        for (int i = 0; i < 32; i++) {
            if (has(bits, i)) {
                return i;
            }
        }
        return NONE;
    }

    private static int pressOf(int kind, int entry) {
        int value = kind == 0 ? (byte) entry : kind == 1 ? (short) entry : entry;
        return Math.max(0, Math.min(MOST_PRESS, value));
    }

    /** Who and whereto are asked ahead of THE TEXT, whether the WORDS do behind it. */
    private int embark(int person, int other, int bank) {
        int answer = crossing.begin(person, other, bank) ? readRow() : ASKED_FIRST;
        text.cut(0);
        if (answer == 0 && !crossing.hasWords()) {
            return TOO_FEW_WORDS;
        }
        return answer;
    }

    private int readRow() {
        text.open(Text.MOST_SIGNS);
        for (int p = 0; p < text.size; p++) {
            if (!crossing.take(text.next() - 'q')) {
                return -1 - p;
            }
            text.skip();
        }
        return text.size == 0 ? -1 : 0;
    }

    private int tellCrossing() {
        tale.tell(crossing.place, crossing.said, crossing.crossed);
        return crossing.crossed;
    }

    private int remembered(int answer) {
        if (answer >= 0) {
            memory.commit();
        }
        return answer;
    }

    private int gossip() {
        switch (act.kind) {
            case 's': return house.speak(act.person, act.thing);
            case 'v': return house.trade(act.person, act.other, act.thing);
            default: return house.passOn(act.person, act.other, act.thing);
        }
    }

    private int sail() {
        if (!crossing.begin(act.person, act.other, act.bank)) {
            return ASKED_FIRST;
        }
        for (int k = 0; k < act.size; k++) {
            if (!crossing.take(at(act.row, k))) {
                return NONE;
            }
        }
        if (!crossing.hasWords()) {
            return TOO_FEW_WORDS;
        }
        crossing.go();
        crossing.settle();
        return crossing.crossed;
    }

    private void tellBothWays(int second) {
        tale.clear();
        tale.add(way.size);
        way.tellRow(tale);
        home.tellBest(tale, second);
    }

    private boolean leavesBank(int person) {
        if (!house.hasPerson(person)) {
            return false;
        }
        int place = at(house.place, person);
        return (place == NEAR || place == FAR) && crossing.begin(person, NONE, FAR - place);
    }

    private boolean endsOn(int k) {
        return way.isBurst()
                && river.landing(crossing.from, crossing.bank, way.crossed()) == FIRST_ISLET + k;
    }

    private int draw(int n) {
        random = random * 1103515245 + 12345;
        return n > 0 ? (random >>> 16) % n : 0;
    }

    private boolean crossesBy(int person, int thing) {
        int bank = at(house.place, person) == FAR ? NEAR : FAR;
        if (!crossing.begin(person, NONE, bank) || !crossing.take(thing) || !crossing.hasWords()) {
            return false;
        }
        crossing.go();
        crossing.settle();
        return true;
    }

    /** THE TEXT, and a reader's place in it. */
    private static final class Text {
        private static final int MOST_SIGNS = 80;

        private final char[] signs;
        private int size;
        private int place;
        private int stop;
        private int fault;

        private Text() {
            signs = new char[MOST_SIGNS];
        }

        private boolean add(int v) {
            if (size > MOST_SIGNS - 4) {
                return false;
            }
            for (int shift = 24; shift >= 0; shift -= 8) {
                if (size >= 0 && size < signs.length) {
                    signs[size] = (char) (v >>> shift & 255);
                    size++;
                }
            }
            return true;
        }

        private boolean cut(int n) {
            if (n < 0 || n > size) {
                return false;
            }
            size = n;
            return true;
        }

        /** Signs behind the most count for nothing until closes() asks for them. */
        private void open(int most) {
            place = 0;
            stop = Math.min(size, most);
            fault = NONE;
        }

        private int next() {
            return place >= 0 && place < stop && place < signs.length ? signs[place] : NONE;
        }

        private void skip() {
            place++;
        }

        private boolean meet(int sign) {
            if (next() != sign) {
                return false;
            }
            place++;
            return true;
        }

        private boolean take(int sign) {
            return meet(sign) || refuse();
        }

        private boolean refuse() {
            fault = place;
            return false;
        }

        private boolean refuseLast() {
            fault = place - 1;
            return false;
        }

        private int answer() {
            return -1 - fault;
        }

        private boolean closes() {
            return place == size || refuse();
        }

        private boolean isDigit() {
            return next() >= '0' && next() <= '9';
        }

        private int number(int digits, int low, int high) {
            int value = NONE;
            for (int k = 0; k < digits && isDigit(); k++) {
                value = Math.max(0, value) * 10 + next() - '0';
                place++;
            }
            if (value == NONE) {
                refuse();
                return NONE;
            }
            if (value < low || value > high) {
                refuseLast();
                return NONE;
            }
            return value;
        }

        private int letter(int first, int many) {
            int which = next() - first;
            if (which < 0 || which >= many) {
                refuse();
                return NONE;
            }
            place++;
            return which;
        }
    }

    /** The ROW. */
    private static final class Tale {
        private final int[] numbers;
        private int size;

        private Tale() {
            numbers = new int[MOST_THINGS];
        }

        private void clear() {
            size = 0;
        }

        private void add(int v) {
            if (size < numbers.length) {
                put(numbers, size, v);
                size++;
            }
        }

        private void tell(int a) {
            clear();
            add(a);
        }

        private void tell(int a, int b) {
            tell(a);
            add(b);
        }

        private void tell(int a, int b, int c) {
            tell(a, b);
            add(c);
        }
    }

    private static final class River {
        private static final int MOST_ISLETS = 5;
        private static final int MOST_YARDS = 60;

        private final int[] islets;
        private final int[] fresh;
        private int size;
        private int yards;

        private River() {
            islets = new int[MOST_ISLETS];
            fresh = new int[MOST_ISLETS];
            yards = 20;
        }

        private int read(Text text) {
            text.open(Text.MOST_SIGNS);
            int wide = text.number(2, 2, MOST_YARDS);
            if (wide == NONE) {
                return text.answer();
            }
            int found = 0;
            int last = 0;
            for (; found < MOST_ISLETS && text.meet(','); found++) {
                last = text.number(2, last + 1, wide - 1);
                if (last == NONE) {
                    return text.answer();
                }
                put(fresh, found, last);
            }
            if (!text.closes()) {
                return text.answer();
            }
            yards = wide;
            size = found;
            for (int k = 0; k < found; k++) {
                put(islets, k, at(fresh, k));
            }
            return found;
        }

        private boolean hasIslet(int k) {
            return k >= 0 && k < size;
        }

        private boolean hasPlace(int place) {
            return place == NEAR || place == FAR || hasIslet(place - FIRST_ISLET);
        }

        private int yardOf(int place) {
            return place == NEAR ? 0 : place == FAR ? yards : at(islets, place - FIRST_ISLET);
        }

        private int between(int place, int bank) {
            int far = yardOf(place) - yardOf(bank);
            return far < 0 ? -far : far;
        }

        /** Where they began does not count as passed, though it be an ISLET. */
        private int landing(int from, int bank, int crossed) {
            int start = yardOf(from);
            int landing = from;
            for (int k = 0; k < size; k++) {
                int yard = at(islets, k);
                boolean passedOut = bank == FAR && yard > start && yard <= start + crossed;
                boolean passedHome = bank == NEAR && yard < start && yard >= start - crossed;
                if (passedOut || passedHome && landing == from) {
                    landing = FIRST_ISLET + k;
                }
            }
            return landing;
        }
    }

    /** PEOPLE and THINGS: who has, KNOWS and may do what. */
    private static final class House {
        private static final int MOST_SIGNS = 76;
        private static final int MOST_HOLD = 99;
        private static final int MOST_WORDS = 40;
        private static final int FIRST_COINS = 5;
        private static final int WORDS_FOR_A_COIN = 5;

        private final int[] hold;
        private final int[] place;
        private final int[] coins;
        private final int[] words;
        private final int[] left;
        private final int[] press;
        private final int[] whose;
        private final int[] about;
        private final int[] said;
        private final int[] knows;
        private int people;
        private int things;
        private int newPeople;
        private int newThings;

        private House() {
            hold = new int[MOST_PEOPLE];
            place = new int[MOST_PEOPLE];
            coins = new int[MOST_PEOPLE];
            words = new int[MOST_THINGS];
            left = new int[MOST_THINGS];
            press = new int[MOST_THINGS];
            whose = new int[MOST_THINGS];
            about = new int[MOST_THINGS];
            said = new int[MOST_THINGS];
            knows = new int[MOST_THINGS];
        }

        /** What is read stands behind what there is, and counts only when the whole TEXT could be read. */
        private int read(Text text) {
            if (text.size == 0) {
                return 0;
            }
            newPeople = people;
            newThings = things;
            text.open(MOST_SIGNS);
            for (int lines = 1; lines <= MOST_SIGNS; lines++) {
                if (!readLine(text)) {
                    return text.answer();
                }
                if (!text.meet(';')) {
                    return text.closes() ? moveIn(lines) : text.answer();
                }
            }
            return NONE;
        }

        private int moveIn(int lines) {
            people = newPeople;
            things = newThings;
            return lines;
        }

        private boolean readLine(Text text) {
            if (newPeople < MOST_PEOPLE && text.meet('p')) {
                return readPerson(text);
            }
            if (newThings < MOST_THINGS && text.meet('t')) {
                return readThing(text);
            }
            return text.refuse();
        }

        private boolean readPerson(Text text) {
            int most = text.number(2, 1, MOST_HOLD);
            if (most == NONE) {
                return false;
            }
            int bank = text.meet('@') ? text.number(1, NEAR, FAR) : NEAR;
            if (bank == NONE) {
                return false;
            }
            put(hold, newPeople, most);
            put(place, newPeople, bank);
            put(coins, newPeople, FIRST_COINS);
            newPeople++;
            return true;
        }

        private boolean readThing(Text text) {
            int owner = text.letter('a', newPeople);
            int many = owner == NONE ? NONE : text.number(2, 1, MOST_WORDS);
            if (many == NONE || !text.take('*')) {
                return false;
            }
            int pressing = text.number(1, 0, MOST_PRESS);
            if (pressing == NONE) {
                return false;
            }
            int whom = NONE;
            if (text.meet('>')) {
                whom = text.letter('a', newPeople);
                if (whom == NONE) {
                    return false;
                }
                if (whom == owner) {
                    return text.refuseLast();
                }
            }
            put(words, newThings, many);
            put(left, newThings, many);
            put(press, newThings, pressing);
            put(whose, newThings, owner);
            put(about, newThings, whom);
            put(said, newThings, 0);
            put(knows, newThings, 1 << owner);
            newThings++;
            return true;
        }

        private boolean hasPerson(int person) {
            return person >= 0 && person < people;
        }

        private boolean hasThing(int thing) {
            return thing >= 0 && thing < things;
        }

        private int peopleAt(int where) {
            int there = 0;
            for (int p = 0; p < people; p++) {
                there |= at(place, p) == where ? 1 << p : 0;
            }
            return there;
        }

        private int onIslets() {
            return (1 << people) - 1 & ~peopleAt(NEAR) & ~peopleAt(FAR);
        }

        /** NONE: nobody, somebody who is not there, or not all at one place. */
        private int placeOfAll(int those) {
            if (those <= 0 || those >= 1 << people) {
                return NONE;
            }
            int where = at(place, firstOf(those));
            return (those & ~peopleAt(where)) == 0 ? where : NONE;
        }

        private int thingsOf(int those) {
            int set = 0;
            for (int thing = 0; thing < things; thing++) {
                set |= has(those, at(whose, thing)) ? 1 << thing : 0;
            }
            return set;
        }

        private boolean isUnsaidOf(int those, int thing) {
            return hasThing(thing) && has(those, at(whose, thing)) && at(said, thing) == 0;
        }

        private int unsaidOf(int those) {
            int set = 0;
            for (int thing = 0; thing < things; thing++) {
                set |= isUnsaidOf(those, thing) ? 1 << thing : 0;
            }
            return set;
        }

        private int saidThings() {
            int set = 0;
            for (int thing = 0; thing < things; thing++) {
                set |= at(said, thing) << thing;
            }
            return set;
        }

        private int knownBy(int person) {
            int set = 0;
            for (int thing = 0; thing < things; thing++) {
                set |= has(at(knows, thing), person) ? 1 << thing : 0;
            }
            return set;
        }

        private int knownAt(int where) {
            int there = peopleAt(where);
            int set = 0;
            for (int thing = 0; thing < things; thing++) {
                set |= (at(knows, thing) & there) != 0 ? 1 << thing : 0;
            }
            return set;
        }

        private int wordsLeft(int set) {
            int sum = 0;
            for (int thing = 0; thing < things; thing++) {
                sum += has(set, thing) ? at(left, thing) : 0;
            }
            return sum;
        }

        /** NONE: no THING is ABOUT that one. */
        private int knowersOfThingsAbout(int person) {
            int count = NONE;
            for (int thing = 0; thing < things; thing++) {
                if (at(about, thing) == person) {
                    int others = at(knows, thing) & ~(1 << at(whose, thing));
                    count = Math.max(0, count) + Integer.bitCount(others);
                }
            }
            return count;
        }

        private boolean owns(int person, int thing) {
            return hasPerson(person) && hasThing(thing) && at(whose, thing) == person;
        }

        private boolean mayKeepBack(int person, int thing) {
            return owns(person, thing) && at(said, thing) == 0;
        }

        private boolean areTwo(int person, int other) {
            return hasPerson(person) && hasPerson(other) && person != other;
        }

        private boolean areTogether(int person, int other) {
            return at(place, person) == at(place, other);
        }

        /** Those with one who do not KNOW a THING. */
        private int newTo(int person, int thing) {
            return peopleAt(at(place, person)) & ~at(knows, thing);
        }

        private int whyNotSay(int person, int thing) {
            if (!owns(person, thing)) {
                return NONE;
            }
            if (at(said, thing) == 1) {
                return -3;
            }
            int whom = at(about, thing);
            return hasPerson(whom) && areTogether(person, whom) ? -2 : 0;
        }

        private int speak(int person, int thing) {
            int why = whyNotSay(person, thing);
            if (why < 0) {
                return why;
            }
            int hearers = newTo(person, thing);
            tellTo(thing, hearers);
            return Integer.bitCount(hearers);
        }

        private int passOn(int person, int other, int thing) {
            if (!areTwo(person, other) || !hasThing(thing) || !has(at(knows, thing), person)
                    || at(said, thing) == 0 && at(whose, thing) != person) {
                return NONE;
            }
            if (!areTogether(person, other)) {
                return -2;
            }
            int news = has(at(knows, thing), other) ? 0 : 1;
            put(knows, thing, at(knows, thing) | 1 << other);
            return news;
        }

        private void tellTo(int thing, int hearers) {
            put(said, thing, 1);
            put(knows, thing, at(knows, thing) | hearers);
        }

        private void move(int those, int where) {
            for (int p = 0; p < people; p++) {
                if (has(those, p)) {
                    put(place, p, where);
                }
            }
        }

        private int price(int thing) {
            return (at(left, thing) + WORDS_FOR_A_COIN - 1) / WORDS_FOR_A_COIN;
        }

        private int whyNotSell(int person, int other, int thing) {
            if (!areTwo(person, other) || !mayKeepBack(person, thing) || at(left, thing) == 0) {
                return NONE;
            }
            if (!areTogether(person, other)) {
                return -2;
            }
            int price = price(thing);
            boolean canPay = at(coins, other) >= price && at(coins, person) + price <= MOST_COINS;
            return canPay && at(about, thing) != other ? 0 : -3;
        }

        private int trade(int person, int other, int thing) {
            int why = whyNotSell(person, other, thing);
            if (why < 0) {
                return why;
            }
            int price = price(thing);
            put(coins, person, at(coins, person) + price);
            put(coins, other, at(coins, other) - price);
            put(whose, thing, other);
            put(knows, thing, at(knows, thing) | 1 << other);
            return price;
        }

        private void save(int[] store, int from) {
            for (int p = 0; p < MOST_PEOPLE; p++) {
                put(store, from + 2 * p, at(place, p));
                put(store, from + 2 * p + 1, at(coins, p));
            }
            int behind = from + 2 * MOST_PEOPLE;
            for (int thing = 0; thing < MOST_THINGS; thing++) {
                put(store, behind + 4 * thing, at(left, thing));
                put(store, behind + 4 * thing + 1, at(said, thing));
                put(store, behind + 4 * thing + 2, at(whose, thing));
                put(store, behind + 4 * thing + 3, at(knows, thing));
            }
        }

        private void load(int[] store, int from) {
            for (int p = 0; p < MOST_PEOPLE; p++) {
                put(place, p, at(store, from + 2 * p));
                put(coins, p, at(store, from + 2 * p + 1));
            }
            int behind = from + 2 * MOST_PEOPLE;
            for (int thing = 0; thing < MOST_THINGS; thing++) {
                put(left, thing, at(store, behind + 4 * thing));
                put(said, thing, at(store, behind + 4 * thing + 1));
                put(whose, thing, at(store, behind + 4 * thing + 2));
                put(knows, thing, at(store, behind + 4 * thing + 3));
            }
        }
    }

    /** THE RULE: numbers as they are, letters and signs as their codes below 0, each behind what it works on. */
    private static final class Rule {
        private static final int MOST_SIGNS = 40;
        private static final int MOST_NESTED = 4;
        private static final int NEGATION = 256;

        private final int[] codes;
        private final int[] fresh;
        private final int[] waiting;
        private final boolean[] compared;
        private int size;
        private int freshSize;
        private int waitingSize;
        private int nested;
        private int pressing;
        private int keptFor;
        private int left;
        private int crossed;
        private int aboard;
        private int keeper;
        private int aboutOneAboard;

        private Rule() {
            codes = new int[MOST_SIGNS];
            fresh = new int[MOST_SIGNS];
            waiting = new int[MOST_SIGNS];
            compared = new boolean[MOST_NESTED + 1];
        }

        private int read(Text text) {
            freshSize = 0;
            if (text.size > 0 && !readExpression(text)) {
                return text.answer();
            }
            size = freshSize;
            for (int k = 0; k < size; k++) {
                put(codes, k, at(fresh, k));
            }
            return 0;
        }

        private boolean readExpression(Text text) {
            text.open(MOST_SIGNS);
            waitingSize = 0;
            nested = 0;
            compare(false);
            for (int k = 0; k <= MOST_SIGNS; k++) {
                if (!readThing(text)) {
                    return false;
                }
                closeParentheses(text);
                if (nested == 0 && text.next() == NONE) {
                    writeWaiting(0);
                    return text.closes();
                }
                if (!readJoint(text)) {
                    return false;
                }
            }
            return text.refuse();
        }

        /** A THING with the - and ( ahead of it. */
        private boolean readThing(Text text) {
            for (int k = 0; k < MOST_SIGNS; k++) {
                if (text.meet('-')) {
                    defer(NEGATION);
                } else if (nested < MOST_NESTED && text.meet('(')) {
                    defer('(');
                    nested++;
                    compare(false);
                } else {
                    break;
                }
            }
            if (text.isDigit()) {
                write(text.number(3, 0, 999));
                return true;
            }
            int sign = text.next();
            if (!isLetter(sign)) {
                return text.refuse();
            }
            text.skip();
            write(-sign);
            return true;
        }

        private void closeParentheses(Text text) {
            for (int k = 0; k < MOST_NESTED && nested > 0 && text.meet(')'); k++) {
                writeWaiting(1);
                if (waitingSize > 0) {
                    waitingSize--;
                }
                nested--;
            }
        }

        private boolean readJoint(Text text) {
            int sign = text.next();
            int bond = bondOf(sign);
            if (bond == 0 || bond == 1 && isCompared()) {
                return text.refuse();
            }
            if (bond == 1) {
                compare(true);
            }
            text.skip();
            writeWaiting(bond);
            defer(sign);
            return true;
        }

        private static boolean isLetter(int sign) {
            switch (sign) {
                case 'p': case 't': case 'w': case 'y': case 'n': case 'i': case 'o':
                    return true;
                default:
                    return false;
            }
        }

        /** How fast a sign binds; 0 for one that joins nothing. */
        private static int bondOf(int sign) {
            switch (sign) {
                case '<': case '>': case '=': return 1;
                case '+': case '-': return 2;
                case '*': case '/': return 3;
                case NEGATION: return 4;
                default: return 0;
            }
        }

        private void compare(boolean yes) {
            if (nested >= 0 && nested < compared.length) {
                compared[nested] = yes;
            }
        }

        private boolean isCompared() {
            return nested >= 0 && nested < compared.length && compared[nested];
        }

        private void write(int code) {
            put(fresh, freshSize, code);
            freshSize++;
        }

        private void defer(int sign) {
            put(waiting, waitingSize, sign);
            waitingSize++;
        }

        /** Signs that bind as fast come ahead: so equals are worked out from the left. */
        private void writeWaiting(int bond) {
            for (int k = 0; k < MOST_SIGNS && waitingSize > 0; k++) {
                int sign = at(waiting, waitingSize - 1);
                if (sign == '(' || bondOf(sign) < bond) {
                    return;
                }
                write(-sign);
                waitingSize--;
            }
        }

        private int pressure(int t, int w, int y) {
            keptFor = t;
            left = w;
            crossed = y;
            if (size == 0) {
                return pressing + keptFor / 2;
            }
            int top = 0;
            for (int k = 0; k < size; k++) {
                int code = at(codes, k);
                if (code >= 0 || isLetter(-code)) {
                    put(waiting, top, code >= 0 ? code : fact(-code));
                    top++;
                } else if (-code == NEGATION) {
                    put(waiting, top - 1, -at(waiting, top - 1));
                } else {
                    top--;
                    put(waiting, top - 1, join(-code, at(waiting, top - 1), at(waiting, top)));
                }
            }
            return at(waiting, 0);
        }

        private int fact(int letter) {
            switch (letter) {
                case 'p': return pressing;
                case 't': return keptFor;
                case 'w': return left;
                case 'y': return crossed;
                case 'n': return aboard;
                case 'i': return keeper;
                default: return aboutOneAboard;
            }
        }

        private static int join(int sign, int a, int b) {
            switch (sign) {
                case '<': return a < b ? 1 : 0;
                case '>': return a > b ? 1 : 0;
                case '=': return a == b ? 1 : 0;
                case '+': return a + b;
                case '-': return a - b;
                case '*': return a * b;
                default: return b == 0 ? 0 : a / b;
            }
        }
    }

    /** A CROSSING that is tried: nothing in THE HOUSE changes until it is settled. */
    private static final class Crossing {
        private final House house;
        private final River river;
        private final Rule rule;
        private final int[] row;
        private final int[] used;
        private int size;
        private int aboard;
        private int from;
        private int bank;
        private int yards;
        private int crossed;
        private int said;
        private int place;
        private int pressure;

        private Crossing(House house, River river, Rule rule) {
            this.house = house;
            this.river = river;
            this.rule = rule;
            row = new int[MOST_IN_ROW];
            used = new int[MOST_IN_ROW];
        }

        private boolean begin(int person, int other, int to) {
            if (!house.hasPerson(person) || to != NEAR && to != FAR) {
                return false;
            }
            int start = at(house.place, person);
            boolean alone = other == NONE;
            if (start == to || !alone && !(house.areTwo(person, other) && house.areTogether(person, other))) {
                return false;
            }
            load(1 << person | (alone ? 0 : 1 << other), start, to);
            return true;
        }

        private void load(int those, int start, int to) {
            aboard = those;
            from = start;
            bank = to;
            yards = river.between(start, to);
            size = 0;
        }

        private boolean take(int thing) {
            if (size >= MOST_IN_ROW || !house.isUnsaidOf(aboard, thing) || at(house.left, thing) == 0) {
                return false;
            }
            for (int k = 0; k < size; k++) {
                if (at(row, k) == thing) {
                    return false;
                }
            }
            put(row, size, thing);
            size++;
            return true;
        }

        private boolean hasWords() {
            int sum = 0;
            for (int k = 0; k < size; k++) {
                sum += at(house.left, at(row, k));
            }
            return sum >= yards;
        }

        private void go() {
            crossed = 0;
            said = NONE;
            for (int k = 0; k < size; k++) {
                int thing = at(row, k);
                int left = at(house.left, thing);
                int most = said == NONE ? Math.min(left, yards - crossed) : 0;
                int kept = kept(thing, left, crossed, most);
                put(used, k, kept);
                crossed += kept;
                said = kept < most ? thing : said;
            }
            place = said == NONE ? bank : river.landing(from, bank, crossed);
        }

        private void settle() {
            for (int k = 0; k < size; k++) {
                int thing = at(row, k);
                put(house.left, thing, at(house.left, thing) - at(used, k));
            }
            if (said != NONE) {
                house.tellTo(said, aboard);
            }
            house.move(aboard, place);
        }

        private void consider(int thing) {
            rule.pressing = at(house.press, thing);
            rule.keeper = at(house.whose, thing);
            rule.aboard = Integer.bitCount(aboard);
            rule.aboutOneAboard = has(aboard, at(house.about, thing)) ? 1 : 0;
        }

        /** For how many yards a THING is kept back; fewer than the most: then it BURSTS OUT by the pressure. */
        private int kept(int thing, int left, int before, int most) {
            int hold = at(house.hold, at(house.whose, thing));
            consider(thing);
            for (int t = 0; t < most; t++) {
                pressure = rule.pressure(t, left - t, before + t);
                if (pressure > hold) {
                    return t;
                }
            }
            return Math.max(0, most);
        }

        /** What is added may not wrap round: so it is counted in longs. */
        private int oddsOfTen(int thing, int t, int yard) {
            consider(thing);
            long hold = at(house.hold, at(house.whose, thing));
            long room = hold - rule.pressure(t, at(house.left, thing) - t, yard) + 1;
            return room < 0 ? 0 : room > 10 ? 10 : (int) room;
        }
    }

    /** Goes through the rows of THINGS for a CROSSING, each ahead of those that go on from it: so in their order. */
    private static final class Walk {
        private static final int DEEPEST = 4;

        private final House house;
        private final Crossing crossing;
        private final int[] left;
        private final int[] row;
        private final int[] best;
        private final int[] yards;
        private final int[] words;
        private final int[] said;
        private final int[] counts;
        private int size;
        private int most;
        private int usable;
        private int largest;

        private Walk(House house, Crossing crossing) {
            this.house = house;
            this.crossing = crossing;
            left = new int[MOST_THINGS];
            row = new int[DEEPEST];
            best = new int[DEEPEST];
            yards = new int[DEEPEST];
            words = new int[DEEPEST];
            said = new int[DEEPEST];
            counts = new int[MOST_THINGS];
        }

        private void start(int limit) {
            for (int thing = 0; thing < MOST_THINGS; thing++) {
                put(left, thing, at(house.left, thing));
            }
            startOnLeft(limit);
        }

        private void startOnLeft(int limit) {
            most = Math.min(limit, DEEPEST);
            size = 0;
            usable = 0;
            largest = 0;
            for (int thing = 0; thing < MOST_THINGS; thing++) {
                boolean fits = house.isUnsaidOf(crossing.aboard, thing) && at(left, thing) > 0;
                usable |= fits ? 1 << thing : 0;
                largest = fits ? Math.max(largest, at(left, thing)) : largest;
            }
        }

        /** What is left behind this row, for a walk that begins with it. */
        private void leaveTo(Walk other) {
            for (int thing = 0; thing < MOST_THINGS; thing++) {
                put(other.left, thing, at(left, thing));
            }
            int before = 0;
            for (int k = 0; k < size; k++) {
                int thing = at(row, k);
                put(other.left, thing, at(left, thing) - (at(yards, k) - before));
                before = at(yards, k);
            }
        }

        private boolean next(boolean deeper) {
            int from = deeper && size < most && canReach() ? 0 : drop() + 1;
            for (int ups = 0; ups <= DEEPEST; ups++) {
                int thing = size < most ? usableFrom(from) : NONE;
                if (thing != NONE) {
                    add(thing);
                    return true;
                }
                from = drop() + 1;
            }
            return false;
        }

        private int drop() {
            if (size == 0) {
                return MOST_THINGS;
            }
            size--;
            int thing = at(row, size);
            usable |= 1 << thing;
            return thing;
        }

        private int usableFrom(int from) {
            for (int thing = from; thing < MOST_THINGS; thing++) {
                if (has(usable, thing)) {
                    return thing;
                }
            }
            return NONE;
        }

        private void add(int thing) {
            boolean first = size == 0;
            int crossed = first ? 0 : at(yards, size - 1);
            int burst = first ? NONE : at(said, size - 1);
            int had = at(left, thing);
            put(words, size, had + (first ? 0 : at(words, size - 1)));
            put(row, size, thing);
            size++;
            usable &= ~(1 << thing);
            if (burst == NONE && crossed < crossing.yards && canReach()) {
                int wanted = Math.min(had, crossing.yards - crossed);
                int kept = crossing.kept(thing, had, crossed, wanted);
                burst = kept < wanted ? thing : NONE;
                crossed += kept;
            }
            put(yards, size - 1, crossed);
            put(said, size - 1, burst);
        }

        /** Most rows have too few WORDS, however they go on: those are not tried yard by yard. */
        private boolean canReach() {
            int had = size == 0 ? 0 : at(words, size - 1);
            return had + (most - size) * largest >= crossing.yards;
        }

        private int crossed() {
            return at(yards, size - 1);
        }

        private int saidThing() {
            return at(said, size - 1);
        }

        private boolean isUnderWay() {
            return saidThing() == NONE && crossed() < crossing.yards;
        }

        private boolean isOver() {
            return saidThing() == NONE && crossed() == crossing.yards;
        }

        /** Rows that have too few WORDS don't set off: so nothing BURSTS OUT by them. */
        private boolean isBurst() {
            return saidThing() != NONE && at(words, size - 1) >= crossing.yards;
        }

        /** The first of the shortest rows; 0: by none. Longer ones than one that was found are left out. */
        private int findShortest() {
            int shortest = 0;
            boolean deeper = true;
            for (int k = 0; k < MOST_ROWS && next(deeper); k++) {
                deeper = isUnderWay();
                if (isOver()) {
                    shortest = size;
                    most = size - 1;
                    copyToBest();
                }
            }
            return shortest;
        }

        private void copyToBest() {
            for (int k = 0; k < size; k++) {
                put(best, k, at(row, k));
            }
        }

        private void tellBest(Tale tale, int many) {
            for (int k = 0; k < many; k++) {
                tale.add(at(best, k));
            }
        }

        private void tellRow(Tale tale) {
            for (int k = 0; k < size; k++) {
                tale.add(at(row, k));
            }
        }

        private void clearCounts() {
            for (int thing = 0; thing < MOST_THINGS; thing++) {
                put(counts, thing, 0);
            }
        }

        private void countSaid() {
            put(counts, saidThing(), at(counts, saidThing()) + 1);
        }

        private int tellCounts(Tale tale) {
            tale.clear();
            int those = 0;
            for (int thing = 0; thing < MOST_THINGS; thing++) {
                if (at(counts, thing) > 0) {
                    those |= 1 << thing;
                    tale.add(at(counts, thing));
                }
            }
            return those;
        }
    }

    /** The boats of a party, each of one or two. */
    private static final class Fleet {
        private final int[] partners;
        private final int[] boats;
        private final int[] with;

        private Fleet() {
            partners = new int[MOST_PEOPLE];
            boats = new int[1 << MOST_PEOPLE];
            with = new int[MOST_PEOPLE];
        }

        private void clear() {
            for (int p = 0; p < MOST_PEOPLE; p++) {
                put(partners, p, 0);
            }
        }

        /** Only the first of two is told of the other one (or of itself: alone). */
        private void pair(int p, int other, boolean comeOver) {
            put(partners, p, at(partners, p) | (comeOver ? 1 << other : 0));
        }

        /** The fewest boats for each set of PEOPLE; more than there are PEOPLE: it can't come over. */
        private int countBoats(int those) {
            put(boats, 0, 0);
            for (int set = 1; set <= those && set < boats.length; set++) {
                int p = firstOf(set);
                int fewest = MOST_PEOPLE + 1;
                for (int other = p; other < MOST_PEOPLE; other++) {
                    if (has(set, other) && has(at(partners, p), other)) {
                        fewest = Math.min(fewest, 1 + at(boats, without(set, p, other)));
                    }
                }
                put(boats, set, fewest);
            }
            return at(boats, those);
        }

        private static int without(int set, int p, int other) {
            return set & ~(1 << p | 1 << other);
        }

        /** The first one takes the first with whom the boats stay the fewest, and so on: that is the least row. */
        private void tellBoats(int those, Tale tale) {
            int rest = those;
            for (int p = 0; p < MOST_PEOPLE; p++) {
                if (has(rest, p)) {
                    int other = firstPartner(rest, p);
                    put(with, p, other);
                    put(with, other, p);
                    rest = without(rest, p, other);
                }
            }
            tale.clear();
            for (int p = 0; p < MOST_PEOPLE; p++) {
                if (has(those, p)) {
                    tale.add(at(with, p));
                }
            }
        }

        private int firstPartner(int rest, int p) {
            for (int other = p; other < MOST_PEOPLE; other++) {
                if (has(rest, other) && has(at(partners, p), other)
                        && 1 + at(boats, without(rest, p, other)) == at(boats, rest)) {
                    return other;
                }
            }
            return p;
        }
    }

    /** What can be undone, and what is kept under a number. */
    private static final class Memory {
        private static final int MOST_UNDONE = 12;
        private static final int RING = MOST_UNDONE + 1;
        private static final int NUMBERS_KEPT = 2;
        private static final int SLOT = 2 * MOST_PEOPLE + 4 * MOST_THINGS;

        private final int[] store;
        private int kept;
        private int size;
        private int staged;

        private Memory() {
            store = new int[(RING + NUMBERS_KEPT) * SLOT];
        }

        /** How things stand ahead of a call: it counts only when the call is done. */
        private void stage(House house) {
            house.save(store, staged * SLOT);
        }

        private void unstage(House house) {
            house.load(store, staged * SLOT);
        }

        private void commit() {
            staged = (staged + 1) % RING;
            size = Math.min(size + 1, MOST_UNDONE);
        }

        private boolean takeBack(House house) {
            if (size == 0) {
                return false;
            }
            staged = (staged + RING - 1) % RING;
            size--;
            house.load(store, staged * SLOT);
            return true;
        }

        private void forgetAll() {
            size = 0;
            kept = 0;
        }

        private boolean keepUnder(int i, House house) {
            if (i < 0 || i >= NUMBERS_KEPT) {
                return false;
            }
            house.save(store, (RING + i) * SLOT);
            kept |= 1 << i;
            return true;
        }

        private boolean bringBack(int i, House house) {
            if (i < 0 || i >= NUMBERS_KEPT || !has(kept, i)) {
                return false;
            }
            house.load(store, (RING + i) * SLOT);
            size = 0;
            return true;
        }
    }

    /** One ACT of A DAY, as it was read last. */
    private static final class Act {
        private static final int MOST_SIGNS = 60;

        private final int[] row;
        private int size;
        private int kind;
        private int person;
        private int other;
        private int bank;
        private int thing;

        private Act() {
            row = new int[MOST_IN_ROW];
        }

        /** How many ACTS there are, or -1 - p. */
        private int check(Text text) {
            if (text.size == 0) {
                return 0;
            }
            text.open(MOST_SIGNS);
            for (int acts = 1; acts <= MOST_SIGNS; acts++) {
                if (!readNext(text)) {
                    return text.answer();
                }
                if (!text.meet(';')) {
                    return text.closes() ? acts : text.answer();
                }
            }
            return NONE;
        }

        private boolean isCrossing() {
            return kind == 'c';
        }

        private boolean readNext(Text text) {
            kind = text.next();
            if (kind != 'c' && kind != 's' && kind != 'v' && kind != 'w') {
                return text.refuse();
            }
            text.skip();
            person = text.letter('a', MOST_PEOPLE);
            if (person == NONE) {
                return false;
            }
            if (kind == 'c') {
                return readCrossing(text);
            }
            other = kind == 's' ? person : text.letter('a', MOST_PEOPLE);
            thing = other == NONE ? NONE : text.letter('q', MOST_THINGS);
            return thing != NONE;
        }

        private boolean readCrossing(Text text) {
            other = NONE;
            if (text.meet('+')) {
                other = text.letter('a', MOST_PEOPLE);
                if (other == NONE) {
                    return false;
                }
                if (other == person) {
                    return text.refuseLast();
                }
            }
            bank = text.number(1, NEAR, FAR);
            return bank != NONE && text.take(':') && readThings(text);
        }

        private boolean readThings(Text text) {
            size = 0;
            for (int k = 0; k < MOST_IN_ROW; k++) {
                int next = text.next() - 'q';
                if (next < 0 || next >= MOST_THINGS) {
                    break;
                }
                put(row, k, next);
                text.skip();
                size++;
            }
            return size > 0 || text.refuse();
        }
    }
}
