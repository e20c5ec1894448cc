/** A daily printed in a single copy, all of it true but chosen, for a reader whose opinions it moves. */
public final class SingleCopy {
    public static final int NONE = -1;
    public static final int UNKNOWN = -1000000001;
    public static final int OUTSIDE = -1000000002;
    public static final int NOT = -1000000003;
    public static final int FULL = -1000000004;

    private static final int MOST_OPINIONS = 5;
    private static final int MOST_FACTS = 8;
    private static final int MOST_BELIEF = 20;
    private static final int MOST_LETTERS = 240;
    private static final int MOST_SHEET = 3;
    private static final int MOST_COST = 9;
    private static final int UNTOLD_CONVINCED = 10;
    private static final int NO_ASKED = 9;
    private static final int MIDDLE_MOVE = 9;
    private static final int MOST_NIGHTS = 90000;
    private static final int MOST_DAYS = 60;
    private static final int MOST_TURNS = 4;
    private static final int MOST_UNDONE = 20;
    private static final int MOST_THOUGHTS = 6;
    private static final int MOST_ENTRIES = 15;
    private static final int IMAGES = 2;
    private static final int SURE = -2;
    private static final int OUT = -3;
    private static final long BILLION = 1000000000L;

    private final CityText text = new CityText();
    private final City town = new City();
    /** Takes a text while it is looked at, so that a fault leaves the city as it was. */
    private final City draft = new City();
    private final Mind now = new Mind();
    /** Minds behind one and two tried nights. */
    private final Mind behindFirst = new Mind();
    private final Mind behindSecond = new Mind();
    private final Row soonestRow = new Row();
    private final Past past = new Past();
    private final Shelf images = new Shelf(IMAGES);
    private final int[] imageDraws = new int[IMAGES];
    /** The SET of images that were kept. */
    private int keptImages = 0;
    private int lastDraw = 0;
    private final Beliefs thoughts = new Beliefs(MOST_THOUGHTS);
    private final Beliefs book = new Beliefs(MOST_ENTRIES);

    public SingleCopy() {
    }

    // ---- the city

    public int feed(int letter) {
        if (letter < 0 || letter > 255) {
            return OUTSIDE;
        }
        return text.append(letter) ? text.count : FULL;
    }

    public int city() {
        int number = text.readInto(draft);
        text.count = 0;
        if (number != 0) {
            return -10 - number;
        }
        town.copyFrom(draft);
        now.begin(town);
        past.clear();
        thoughts.clear();
        book.clear();
        keptImages = 0;
        return town.facts;
    }

    public int fault() {
        return text.faultPlace;
    }

    public int told(int what) {
        switch (what) {
            case 0: return town.sheetSize;
            case 1: return town.opinions;
            case 2: return town.facts;
            case 3: return town.convincedFrom;
            case 4: return text.count;
            case 5: return now.nights;
            case 6: return now.cost;
            case 7: return now.convincedOf(town);
            case 8: return now.so;
            case 9: return now.shown;
            case 10: return thoughts.count;
            case 11: return book.count;
            case 12: return past.count;
            default: return OUTSIDE;
        }
    }

    public int belief(int o) {
        return town.hasOpinion(o) ? at(now.beliefs, o) : UNKNOWN;
    }

    public int fact(int f, int what) {
        if (!town.hasFact(f)) {
            return UNKNOWN;
        }
        switch (what) {
            case 0: return at(town.moved, f);
            case 1: return at(town.moves, f) + MIDDLE_MOVE;
            case 2: return at(town.asked, f);
            case 3: return at(town.askedFrom, f);
            case 4: return at(town.costs, f);
            case 5: return has(now.so, f) ? 1 : 0;
            case 6: return at(now.reads, f);
            default: return OUTSIDE;
        }
    }

    // ---- what is done

    public int night(int sheet) {
        if (!town.hasFacts(sheet)) {
            return UNKNOWN;
        }
        if (!mayBe(sheet)) {
            return NOT;
        }
        if (now.nights > MOST_NIGHTS) {
            return FULL;
        }
        past.push(now);
        now.spendNight(town, sheet);
        return now.shown;
    }

    public int meet(int o, int v) {
        if (!town.hasOpinion(o)) {
            return UNKNOWN;
        }
        if (!isBelief(v)) {
            return OUTSIDE;
        }
        past.push(now);
        int then = behindMeeting(at(now.beliefs, o), v);
        put(now.beliefs, o, then);
        return then;
    }

    public int make(int f) {
        if (!town.hasFact(f)) {
            return UNKNOWN;
        }
        if (has(now.so, f)) {
            return NOT;
        }
        past.push(now);
        now.so |= 1 << f;
        now.cost += at(town.costs, f);
        return now.cost;
    }

    public int drift(int n) {
        if (n < 1 || n > MOST_DAYS) {
            return OUTSIDE;
        }
        if (town.opinions == 0) {
            return NOT;
        }
        if (now.nights > MOST_NIGHTS) {
            return FULL;
        }
        past.push(now);
        for (int i = 0; i < n; i++) {
            now.spendNight(town, drawnSheet());
        }
        return now.nights;
    }

    public int undo() {
        return past.pop(now) ? past.count : NOT;
    }

    // ---- tried

    public int thinks(int sheet, int o) {
        if (!town.hasFacts(sheet) || (o != NONE && !town.hasOpinion(o))) {
            return UNKNOWN;
        }
        if (!mayBe(sheet)) {
            return NOT;
        }
        behindFirst.copyFrom(now);
        behindFirst.spendNight(town, sheet);
        return o == NONE ? behindFirst.shown : at(behindFirst.beliefs, o);
    }

    public int soonest(int all, int none, int i) {
        if (!town.hasOpinions(all) || !town.hasOpinions(none)) {
            return UNKNOWN;
        }
        if (i < NONE || !findSoonest(all, none)) {
            return NONE;
        }
        if (i == NONE) {
            return soonestRow.nights;
        }
        if (i >= soonestRow.nights) {
            return NONE;
        }
        return i == 0 ? soonestRow.firstSheet : soonestRow.secondSheet;
    }

    public int cannot() {
        int every = (1 << town.opinions) - 1;
        int reached = now.convincedOf(town);
        for (int first = 0; first < 1 << town.facts && reached != every; first++) {
            if (mayBe(first)) {
                reached |= reachedBehind(first);
            }
        }
        return every & ~reached;
    }

    public int least(int o, int what) {
        if (!town.hasOpinion(o)) {
            return UNKNOWN;
        }
        if (what < 0 || what > 1) {
            return OUTSIDE;
        }
        int bestCost = NONE;
        int bestSet = NONE;
        for (int sheet = 0; sheet < 1 << town.facts; sheet++) {
            int missing = sheet & ~now.so;
            int cost = town.costOf(missing);
            boolean better = bestCost == NONE || cost < bestCost || (cost == bestCost && missing < bestSet);
            if (better && town.fits(sheet) && convincesOf(sheet, o)) {
                bestCost = cost;
                bestSet = missing;
            }
        }
        return what == 0 ? bestCost : bestSet;
    }

    public int rivals(int o, int n) {
        if (!town.hasOpinion(o)) {
            return UNKNOWN;
        }
        if (n < 1 || n > MOST_TURNS) {
            return OUTSIDE;
        }
        behindFirst.copyFrom(now);
        return rivalsEnd(town, behindFirst, o, 0, n, now.so);
    }

    public int shun(int o, int what) {
        if (!town.hasOpinion(o)) {
            return UNKNOWN;
        }
        if (what < 0 || what > 1) {
            return OUTSIDE;
        }
        int own = at(now.beliefs, o);
        int least = NONE;
        int greatest = NONE;
        for (int v = 0; v <= MOST_BELIEF && own >= town.convincedFrom; v++) {
            if (behindMeeting(own, v) < town.convincedFrom) {
                least = least == NONE ? v : least;
                greatest = v;
            }
        }
        return what == 0 ? least : greatest;
    }

    public int holds(int n, int q) {
        if (n < 0 || n > MOST_DAYS || q < 0 || q > 100) {
            return OUTSIDE;
        }
        long odds = BILLION;
        for (int day = 0; day < n; day++) {
            odds = odds * (100 - q) / 100;
        }
        return (int) odds;
    }

    public int worn() {
        int set = 0;
        for (int f = 0; f < town.facts; f++) {
            if (wornMove(at(town.moves, f), at(now.reads, f)) == 0) {
                set |= 1 << f;
            }
        }
        return set;
    }

    // ---- what is thought

    public int thought(int o, int b) {
        return noteIn(thoughts, o, b);
    }

    public int leftOut(int i) {
        int count = 0;
        int inAll = -1;
        int inSome = 0;
        for (int sheet = 0; sheet < 1 << town.facts; sheet++) {
            if (mayBe(sheet) && thoughtBehind(town, sheet)) {
                if (count == i) {
                    return sheet;
                }
                count++;
                inAll &= sheet;
                inSome |= sheet;
            }
        }
        switch (i) {
            case NONE: return count;
            case SURE: return count == 0 ? 0 : inAll;
            case OUT: return now.so & ~inSome;
            default: return NONE;
        }
    }

    public int strengths(int f, int sheet) {
        if (!town.hasFact(f) || !town.hasFacts(sheet)) {
            return UNKNOWN;
        }
        if (!mayBe(sheet)) {
            return NOT;
        }
        int set = 0;
        draft.copyFrom(town);
        for (int k = 0; k <= 2 * MIDDLE_MOVE; k++) {
            put(draft.moves, f, k - MIDDLE_MOVE);
            if (thoughtBehind(draft, sheet)) {
                set |= 1 << k;
            }
        }
        return set;
    }

    public int write(int o, int b) {
        return noteIn(book, o, b);
    }

    public int tear() {
        int both = thoughts.count + book.count;
        thoughts.clear();
        book.clear();
        return both;
    }

    public int judge() {
        return book.firstOtherwise(now);
    }

    // ---- draws, images

    public int seed(int v) {
        if (v < 0) {
            return OUTSIDE;
        }
        int was = lastDraw;
        lastDraw = v;
        return was;
    }

    public int keep(int i) {
        if (i < 0 || i >= IMAGES) {
            return UNKNOWN;
        }
        images.store(i, now);
        put(imageDraws, i, lastDraw);
        keptImages |= 1 << i;
        past.clear();
        return 1;
    }

    public int goBack(int i) {
        if (i < 0 || i >= IMAGES) {
            return UNKNOWN;
        }
        if (!has(keptImages, i)) {
            return NOT;
        }
        images.fetch(i, now);
        lastDraw = at(imageDraws, i);
        past.clear();
        return 1;
    }

    // ---- what the calls share

    /** Tests every index, since no call may throw whatever it is asked. */
    private static int at(int[] row, int i) {
        return i >= 0 && i < row.length ? row[i] : 0;
    }

    private static void put(int[] row, int i, int value) {
        if (i >= 0 && i < row.length) {
            row[i] = value;
        }
    }

    private static boolean has(int set, int k) {
        return k >= 0 && k < 31 && (set >> k & 1) == 1;
    }

    private static boolean isBelief(int b) {
        return b >= 0 && b <= MOST_BELIEF;
    }

    private static int behindMeeting(int own, int v) {
        return (2 * own + v) / 3;
    }

    /** How much a fact still moves when it was read so often already. */
    private static int wornMove(int move, int often) {
        int by = 1 + often;
        return by > 0 ? move / by : 0;
    }

    private boolean mayBe(int sheet) {
        return town.opinions > 0 && town.fits(sheet) && (sheet & ~now.so) == 0;
    }

    private int drawOf(int n) {
        lastDraw = (int) ((lastDraw * 1103515245L + 12345L) & 0x7fffffffL);
        return n > 0 ? lastDraw / 65536 % n : 0;
    }

    private int drawnSheet() {
        int sheet = 0;
        int printed = 0;
        for (int f = 0; f < town.facts; f++) {
            // the order matters: a full sheet or a fact that is not so takes no draw
            if (has(now.so, f) && printed < town.sheetSize && drawOf(3) == 0) {
                sheet |= 1 << f;
                printed++;
            }
        }
        return sheet;
    }

    private int noteIn(Beliefs list, int o, int b) {
        if (!town.hasOpinion(o)) {
            return UNKNOWN;
        }
        if (!isBelief(b)) {
            return OUTSIDE;
        }
        return list.append(o, b) ? list.count : FULL;
    }

    private boolean thoughtBehind(City city, int sheet) {
        behindFirst.copyFrom(now);
        behindFirst.spendNight(city, sheet);
        return thoughts.firstOtherwise(behindFirst) == NONE;
    }

    private boolean convincesOf(int sheet, int o) {
        behindFirst.copyFrom(now);
        behindFirst.spendNight(town, sheet);
        return has(behindFirst.convincedOf(town), o);
    }

    /** The opinions of which he is convinced behind this sheet alone or behind it and any second one. */
    private int reachedBehind(int first) {
        behindFirst.copyFrom(now);
        behindFirst.spendNight(town, first);
        int reached = behindFirst.convincedOf(town);
        for (int second = 0; second < 1 << town.facts; second++) {
            if (mayBe(second)) {
                behindSecond.copyFrom(behindFirst);
                behindSecond.spendNight(town, second);
                reached |= behindSecond.convincedOf(town);
            }
        }
        return reached;
    }

    private boolean findSoonest(int all, int none) {
        if (now.isConvinced(town, all, none)) {
            soonestRow.become(0, NONE, NONE);
            return true;
        }
        return findOneNight(now, behindFirst, all, none, NONE) || findTwoNights(all, none);
    }

    /** Tries each sheet as the night behind 'from'; 'earlier' is the sheet printed ahead of it, or NONE. */
    private boolean findOneNight(Mind from, Mind behind, int all, int none, int earlier) {
        for (int sheet = 0; sheet < 1 << town.facts; sheet++) {
            if (mayBe(sheet)) {
                behind.copyFrom(from);
                behind.spendNight(town, sheet);
                if (behind.isConvinced(town, all, none)) {
                    soonestRow.become(earlier == NONE ? 1 : 2, earlier == NONE ? sheet : earlier, sheet);
                    return true;
                }
            }
        }
        return false;
    }

    private boolean findTwoNights(int all, int none) {
        for (int first = 0; first < 1 << town.facts; first++) {
            if (mayBe(first)) {
                behindFirst.copyFrom(now);
                behindFirst.spendNight(town, first);
                if (findOneNight(behindFirst, behindSecond, all, none, first)) {
                    return true;
                }
            }
        }
        return false;
    }

    /** The turns go from 0 to n, four at most, so that the calls standing open are few. */
    private static int rivalsEnd(City city, Mind mind, int o, int turn, int n, int left) {
        if (turn >= n || turn >= MOST_TURNS || left == 0) {
            return at(mind.beliefs, o);
        }
        boolean wantsGreat = turn % 2 == 0;
        int best = wantsGreat ? -1 : MOST_BELIEF + 1;
        for (int f = 0; f < city.facts; f++) {
            if (has(left, f)) {
                int moved = at(city.moved, f);
                int before = at(mind.beliefs, moved);
                mind.readFact(city, f);
                int end = rivalsEnd(city, mind, o, turn + 1, n, left & ~(1 << f));
                mind.unread(f, moved, before);
                best = wantsGreat ? Math.max(best, end) : Math.min(best, end);
            }
        }
        return best;
    }

    // ---- classes

    /** What a text tells: it stays as it is until the next text. */
    private static final class City {
        private int sheetSize;
        private int opinions;
        private int facts;
        private int convincedFrom = UNTOLD_CONVINCED;
        private final int[] firstBeliefs = new int[MOST_OPINIONS];
        /** Of each fact: its opinion, by how much it moves that, the opinion asked (or NONE) and from what belief on. */
        private final int[] moved = new int[MOST_FACTS];
        private final int[] moves = new int[MOST_FACTS];
        private final int[] asked = new int[MOST_FACTS];
        private final int[] askedFrom = new int[MOST_FACTS];
        private final int[] costs = new int[MOST_FACTS];

        private City() {
        }

        private void clear() {
            sheetSize = 0;
            opinions = 0;
            facts = 0;
            convincedFrom = UNTOLD_CONVINCED;
        }

        private void copyFrom(City other) {
            sheetSize = other.sheetSize;
            opinions = other.opinions;
            facts = other.facts;
            convincedFrom = other.convincedFrom;
            for (int o = 0; o < MOST_OPINIONS; o++) {
                put(firstBeliefs, o, at(other.firstBeliefs, o));
            }
            for (int f = 0; f < MOST_FACTS; f++) {
                put(moved, f, at(other.moved, f));
                put(moves, f, at(other.moves, f));
                put(asked, f, at(other.asked, f));
                put(askedFrom, f, at(other.askedFrom, f));
                put(costs, f, at(other.costs, f));
            }
        }

        private boolean hasOpinion(int o) {
            return o >= 0 && o < opinions;
        }

        private boolean hasFact(int f) {
            return f >= 0 && f < facts;
        }

        private boolean hasOpinions(int set) {
            return (set & -(1 << opinions)) == 0;
        }

        private boolean hasFacts(int set) {
            return (set & -(1 << facts)) == 0;
        }

        private boolean fits(int sheet) {
            return Integer.bitCount(sheet) <= sheetSize;
        }

        private int costOf(int set) {
            int cost = 0;
            for (int f = 0; f < facts; f++) {
                cost += has(set, f) ? at(costs, f) : 0;
            }
            return cost;
        }
    }

    /** The reader and the world as they are: all that can be undone and kept in images, but for the seed. */
    private static final class Mind {
        private final int[] beliefs = new int[MOST_OPINIONS];
        private final int[] reads = new int[MOST_FACTS];
        private int so;
        private int nights;
        private int cost;
        private int shown = NONE;

        private Mind() {
        }

        private void begin(City city) {
            so = 0;
            nights = 0;
            cost = 0;
            shown = NONE;
            for (int o = 0; o < MOST_OPINIONS; o++) {
                put(beliefs, o, city.hasOpinion(o) ? at(city.firstBeliefs, o) : 0);
            }
            for (int f = 0; f < MOST_FACTS; f++) {
                put(reads, f, 0);
                so |= city.hasFact(f) && at(city.costs, f) == 0 ? 1 << f : 0;
            }
        }

        private void copyFrom(Mind other) {
            so = other.so;
            nights = other.nights;
            cost = other.cost;
            shown = other.shown;
            for (int o = 0; o < MOST_OPINIONS; o++) {
                put(beliefs, o, at(other.beliefs, o));
            }
            for (int f = 0; f < MOST_FACTS; f++) {
                put(reads, f, at(other.reads, f));
            }
        }

        private int convincedOf(City city) {
            int set = 0;
            for (int o = 0; o < city.opinions; o++) {
                set |= at(beliefs, o) >= city.convincedFrom ? 1 << o : 0;
            }
            return set;
        }

        private boolean isConvinced(City city, int all, int none) {
            int set = convincedOf(city);
            return (set & all) == all && (set & none) == 0;
        }

        /** Whether this fact makes him convinced of an opinion of which he was not: it can only be the one it moves. */
        private boolean readFact(City city, int f) {
            int o = at(city.moved, f);
            int before = at(beliefs, o);
            int after = before;
            int often = at(reads, f);
            int asked = at(city.asked, f);
            if (asked == NONE || at(beliefs, asked) >= at(city.askedFrom, f)) {
                after = Math.max(0, Math.min(MOST_BELIEF, before + wornMove(at(city.moves, f), often)));
            }
            put(beliefs, o, after);
            put(reads, f, often + 1);
            return before < city.convincedFrom && after >= city.convincedFrom;
        }

        private void unread(int f, int o, int before) {
            put(beliefs, o, before);
            put(reads, f, at(reads, f) - 1);
        }

        private void spendNight(City city, int sheet) {
            shown = NONE;
            for (int f = 0; f < city.facts; f++) {
                if (has(sheet, f) && readFact(city, f) && shown == NONE) {
                    shown = f;
                }
            }
            nights++;
        }
    }

    /** Places for minds, as numbers in one row, so that nothing is made while the object is used. */
    private static final class Shelf {
        private static final int SO = MOST_OPINIONS + MOST_FACTS;
        private static final int NIGHTS = SO + 1;
        private static final int COST = SO + 2;
        private static final int SHOWN = SO + 3;
        private static final int SIZE = SO + 4;
        private static final int MOST_PLACES = 20;

        private final int[] numbers;

        private Shelf(int places) {
            numbers = new int[Math.max(0, Math.min(MOST_PLACES, places)) * SIZE];
        }

        private void store(int place, Mind mind) {
            int start = place * SIZE;
            for (int o = 0; o < MOST_OPINIONS; o++) {
                put(numbers, start + o, at(mind.beliefs, o));
            }
            for (int f = 0; f < MOST_FACTS; f++) {
                put(numbers, start + MOST_OPINIONS + f, at(mind.reads, f));
            }
            put(numbers, start + SO, mind.so);
            put(numbers, start + NIGHTS, mind.nights);
            put(numbers, start + COST, mind.cost);
            put(numbers, start + SHOWN, mind.shown);
        }

        private void fetch(int place, Mind mind) {
            int start = place * SIZE;
            for (int o = 0; o < MOST_OPINIONS; o++) {
                put(mind.beliefs, o, at(numbers, start + o));
            }
            for (int f = 0; f < MOST_FACTS; f++) {
                put(mind.reads, f, at(numbers, start + MOST_OPINIONS + f));
            }
            mind.so = at(numbers, start + SO);
            mind.nights = at(numbers, start + NIGHTS);
            mind.cost = at(numbers, start + COST);
            mind.shown = at(numbers, start + SHOWN);
        }
    }

    /** The minds ahead of the latest doings, the oldest lost first: a ring. */
    private static final class Past {
        private final Shelf shelf = new Shelf(MOST_UNDONE);
        private int next = 0;
        private int count = 0;

        private Past() {
        }

        private void clear() {
            count = 0;
        }

        private void push(Mind mind) {
            shelf.store(next, mind);
            next = (next + 1) % MOST_UNDONE;
            count = Math.min(MOST_UNDONE, count + 1);
        }

        private boolean pop(Mind mind) {
            if (count == 0) {
                return false;
            }
            next = (next + MOST_UNDONE - 1) % MOST_UNDONE;
            count--;
            shelf.fetch(next, mind);
            return true;
        }
    }

    /** Told beliefs, one behind the other: what is thought of tomorrow, and the book. */
    private static final class Beliefs {
        private final int[] opinions;
        private final int[] amounts;
        private int count = 0;

        private Beliefs(int most) {
            opinions = new int[Math.max(0, most)];
            amounts = new int[Math.max(0, most)];
        }

        private void clear() {
            count = 0;
        }

        private boolean append(int o, int b) {
            if (count >= opinions.length) {
                return false;
            }
            put(opinions, count, o);
            put(amounts, count, b);
            count++;
            return true;
        }

        private int firstOtherwise(Mind mind) {
            for (int i = 0; i < count; i++) {
                if (at(mind.beliefs, at(opinions, i)) != at(amounts, i)) {
                    return i;
                }
            }
            return NONE;
        }
    }

    /** The row of sheets that was found soonest. */
    private static final class Row {
        private int nights;
        private int firstSheet;
        private int secondSheet;

        private Row() {
        }

        private void become(int nightsOf, int first, int second) {
            nights = nightsOf;
            firstSheet = first;
            secondSheet = second;
        }
    }

    /** The letters fed, and the reading of them; behind the first fault all reading stands still. */
    private static final class CityText {
        private static final int CANNOT_STAND = 1;
        private static final int BAD_NUMBER = 2;
        private static final int AGAIN = 3;
        private static final int MOST_FIGURES = 3;
        /** What there is behind the last letter. */
        private static final int END = -1;

        private final int[] letters = new int[MOST_LETTERS];
        private int count = 0;
        /** The letter that is read next, and the first one of the latest number. */
        private int place;
        private int numberPlace;
        private int faultNumber = 0;
        private int faultPlace = NONE;
        private boolean convincedTold;

        private CityText() {
        }

        private boolean append(int letter) {
            if (count >= MOST_LETTERS) {
                return false;
            }
            put(letters, count, letter);
            count++;
            return true;
        }

        /** Fills the city; answers the number of the fault, 0 without one. */
        private int readInto(City city) {
            city.clear();
            place = 0;
            faultNumber = 0;
            faultPlace = NONE;
            convincedTold = false;
            skipBlanks();
            for (int clauses = 0; clauses < MOST_LETTERS && next() != END && faultNumber == 0; clauses++) {
                readClause(city);
                skipBlanks();
            }
            return faultNumber;
        }

        private int next() {
            return place < count ? at(letters, place) : END;
        }

        private void skipBlanks() {
            for (int i = 0; i < MOST_LETTERS && next() == ' '; i++) {
                place++;
            }
        }

        private boolean atFigure() {
            return next() >= '0' && next() <= '9';
        }

        private void mark(int number, int where) {
            if (faultNumber == 0) {
                faultNumber = number;
                faultPlace = where;
            }
        }

        private void readClause(City city) {
            int word = next();
            if (word != 'r' && (city.opinions == 0 || (word != 'f' && word != 'h'))) {
                mark(CANNOT_STAND, place);
                return;
            }
            if (toldAlready(city, word)) {
                mark(AGAIN, place);
                return;
            }
            place++;
            switch (word) {
                case 'r':
                    readReader(city);
                    break;
                case 'f':
                    readFactOf(city);
                    break;
                default:
                    city.convincedFrom = readNumber(1, MOST_BELIEF);
                    convincedTold = true;
            }
            if (!takes(';')) {
                mark(CANNOT_STAND, place);
            }
        }

        private boolean toldAlready(City city, int word) {
            switch (word) {
                case 'r': return city.opinions > 0;
                case 'f': return city.facts >= MOST_FACTS;
                default: return convincedTold;
            }
        }

        private void readReader(City city) {
            city.sheetSize = readNumber(1, MOST_SHEET);
            for (int o = 0; o < MOST_OPINIONS && (o == 0 || takes(',')); o++) {
                put(city.firstBeliefs, o, readNumber(0, MOST_BELIEF));
                city.opinions++;
            }
        }

        private void readFactOf(City city) {
            int f = city.facts;
            put(city.moved, f, readNumber(0, city.opinions - 1));
            put(city.moves, f, readNumber(0, 2 * MIDDLE_MOVE) - MIDDLE_MOVE);
            int asked = readNumber(0, NO_ASKED);
            if (asked != NO_ASKED && !city.hasOpinion(asked)) {
                mark(BAD_NUMBER, numberPlace);
            }
            put(city.asked, f, asked == NO_ASKED ? NONE : asked);
            put(city.askedFrom, f, readNumber(0, MOST_BELIEF));
            put(city.costs, f, readNumber(0, MOST_COST));
            city.facts++;
        }

        /** Goes past the sign if it is the next letter but blanks. */
        private boolean takes(int sign) {
            skipBlanks();
            if (faultNumber != 0 || next() != sign) {
                return false;
            }
            place++;
            return true;
        }

        /** A fault of a number lies at its first figure; behind a fault the answer is of no matter. */
        private int readNumber(int least, int greatest) {
            skipBlanks();
            numberPlace = place;
            if (faultNumber != 0 || !atFigure()) {
                mark(CANNOT_STAND, place);
                return least;
            }
            int value = 0;
            for (int i = 0; i < MOST_LETTERS && atFigure(); i++) {
                // held small: a number of so many figures is refused by their count
                value = Math.min(1000, value * 10 + next() - '0');
                place++;
            }
            if (place - numberPlace > MOST_FIGURES || value < least || value > greatest) {
                mark(BAD_NUMBER, numberPlace);
                return least;
            }
            return value;
        }
    }
}
