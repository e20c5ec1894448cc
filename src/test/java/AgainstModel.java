import java.util.ArrayDeque;
import java.util.ArrayList;
import java.util.Deque;
import java.util.List;

/** Long runs of calls by a fixed row of draws, each answer held against a second program written another way. */
public final class AgainstModel {
    private static final int NONE = -1;
    private static final int UNKNOWN = -1000000001;
    private static final int OUTSIDE = -1000000002;
    private static final int NOT = -1000000003;
    private static final int FULL = -1000000004;
    private static final int RUNS = 1200;
    private static final int CALLS = 512;

    private static long draws = 20261120;

    private static int draw(int n) {
        draws = draws * 6364136223846793005L + 1442695040888963407L;
        return (int) ((draws >>> 33) % n);
    }

    public static void main(String[] args) {
        long calls = 0;
        for (int run = 0; run < RUNS; run++) {
            SingleCopy x = new SingleCopy();
            Model y = new Model();
            List<String> log = new ArrayList<>();
            for (int left = CALLS; left > 0;) {
                int used = draw(90) == 0 || left == CALLS ? tellText(x, y, log, left) : call(x, y, log);
                left -= used;
                calls += used;
            }
        }
        calls += everyLetterEverywhere();
        System.out.println(calls + " calls answered as by the model");
    }

    /** A text with each of its letters replaced by each letter, then with each letter put in, then cut off there. */
    private static long everyLetterEverywhere() {
        String text = " r2 0, 12,020;f1 18 9 7 3;h 15; f2 4 2 20 0 ; ";
        long calls = 0;
        for (int i = 0; i <= text.length(); i++) {
            for (int letter = 0; letter < 256; letter++) {
                String ahead = text.substring(0, i) + (char) letter;
                calls += readAlike(ahead + text.substring(i));
                calls += readAlike(ahead + (i < text.length() ? text.substring(i + 1) : ""));
                calls += readAlike(ahead);
            }
        }
        return calls;
    }

    private static int readAlike(String text) {
        SingleCopy x = new SingleCopy();
        Model y = new Model();
        List<String> log = new ArrayList<>(List.of("text " + text));
        for (int i = 0; i < text.length(); i++) {
            due(log, "feed", x.feed(text.charAt(i)), y.feed(text.charAt(i)));
        }
        due(log, "city()", x.city(), y.city());
        due(log, "fault()", x.fault(), y.fault());
        for (int what = 0; what <= 12; what++) {
            due(log, "told " + what, x.told(what), y.told(what));
        }
        for (int f = 0; f < 3; f++) {
            for (int what = 0; what <= 6; what++) {
                due(log, "fact " + f + " " + what, x.fact(f, what), y.fact(f, what));
            }
        }
        for (int o = 0; o < 5; o++) {
            due(log, "belief " + o, x.belief(o), y.belief(o));
        }
        return text.length() + 41;
    }

    private static void due(List<String> log, String call, int got, int want) {
        log.add(call + " = " + want);
        if (got != want) {
            log.forEach(System.out::println);
            System.out.println(call + " answered " + got + ", the model " + want);
            System.exit(1);
        }
    }

    private static int tellText(SingleCopy x, Model y, List<String> log, int most) {
        String text = draw(3) == 0 ? broken(aText()) : aText();
        int count = Math.min(text.length(), most - 1);
        log.add("text " + text);
        for (int i = 0; i < count; i++) {
            due(log, "feed", x.feed(text.charAt(i)), y.feed(text.charAt(i)));
        }
        due(log, "city()", x.city(), y.city());
        return count + 1;
    }

    private static String aText() {
        StringBuilder s = new StringBuilder();
        int opinions = 1 + draw(5);
        s.append(blank()).append('r').append(blank()).append(1 + draw(3));
        for (int o = 0; o < opinions; o++) {
            s.append(o == 0 ? " " : "," + blank()).append(draw(21)).append(blank());
        }
        s.append(';');
        int h = draw(9);
        int facts = 1 + draw(9);
        for (int f = 0; f < facts; f++) {
            int asked = draw(2) == 0 ? 9 : draw(opinions);
            s.append(blank()).append('f').append(draw(opinions)).append(' ').append(draw(19)).append(' ').append(asked)
                .append(' ').append(draw(3) == 0 ? 0 : draw(21)).append(' ').append(draw(5) < 3 ? 0 : 1 + draw(9))
                .append(blank()).append(';');
            if (f == h) {
                s.append('h').append(1 + draw(20)).append(';');
            }
        }
        return s.append(blank()).toString();
    }

    private static String blank() {
        return draw(12) == 0 ? " " : "";
    }

    private static String broken(String text) {
        StringBuilder s = new StringBuilder(text);
        String signs = "rfh;,0123456789 999x";
        for (int i = 0; i <= draw(3); i++) {
            int at = draw(s.length() + 1);
            switch (draw(4)) {
                case 0: s.insert(at, signs.charAt(draw(signs.length()))); break;
                case 1: s.setLength(at); break;
                case 2: s.deleteCharAt(Math.min(at, s.length() - 1)); break;
                default: s.setCharAt(Math.min(at, s.length() - 1), signs.charAt(draw(signs.length())));
            }
            if (s.length() == 0) {
                return "";
            }
        }
        return s.toString();
    }

    /** A number that is mostly near its bounds, now and then any. */
    private static int near(int least, int greatest) {
        int kind = draw(40);
        if (kind == 0) {
            return least - 1;
        }
        if (kind == 1) {
            return greatest + 1;
        }
        if (kind == 2) {
            return draw(2) == 0 ? Integer.MIN_VALUE + draw(3) : Integer.MAX_VALUE - draw(3);
        }
        if (kind == 3) {
            return (int) draws;
        }
        return least + draw(greatest - least + 1);
    }

    private static int aSheet(Model y) {
        int sheet = near(0, (1 << y.facts.size()) - 1);
        for (int i = 0; i < 3 && draw(8) > 0 && (sheet & (1 << y.facts.size()) - 1) == sheet; i++) {
            sheet &= draw(2) == 0 ? y.now.so() : sheet - 1 | draw(256);
        }
        return sheet;
    }

    private static int call(SingleCopy x, Model y, List<String> log) {
        int opinions = Math.max(1, y.first.size());
        int facts = Math.max(1, y.facts.size());
        int o = near(0, opinions - 1);
        int f = near(0, facts - 1);
        int v = near(0, 20);
        int sheet = aSheet(y);
        switch (draw(34)) {
            case 0: { int w = near(0, 12); due(log, "told " + w, x.told(w), y.told(w)); break; }
            case 1: due(log, "belief " + o, x.belief(o), y.belief(o)); break;
            case 2: { int w = near(0, 6); due(log, "fact " + f + " " + w, x.fact(f, w), y.fact(f, w)); break; }
            case 3: case 4: case 5: due(log, "night " + sheet, x.night(sheet), y.night(sheet)); break;
            case 6: case 7: due(log, "meet " + o + " " + v, x.meet(o, v), y.meet(o, v)); break;
            case 8: due(log, "make " + f, x.make(f), y.make(f)); break;
            case 9: { int n = draw(6) == 0 ? near(1, 60) : near(1, 3); due(log, "drift " + n, x.drift(n), y.drift(n)); break; }
            case 10: case 11: due(log, "undo", x.undo(), y.undo()); break;
            case 12: { int w = near(-1, opinions - 1); due(log, "thinks " + sheet + " " + w, x.thinks(sheet, w), y.thinks(sheet, w)); break; }
            case 13: case 14: {
                int all = draw(2) == 0 ? 1 << draw(opinions) : near(0, (1 << opinions) - 1);
                int none = near(0, (1 << opinions) - 1);
                none = draw(2) == 0 ? none & ~all : draw(3) == 0 ? none : 0;
                int i = near(-1, 2);
                due(log, "soonest " + all + " " + none + " " + i, x.soonest(all, none, i), y.soonest(all, none, i));
                break;
            }
            case 15: due(log, "cannot", x.cannot(), y.cannot()); break;
            case 16: case 17: { int w = near(0, 1); due(log, "least " + o + " " + w, x.least(o, w), y.least(o, w)); break; }
            case 18: { int n = near(1, 4); due(log, "rivals " + o + " " + n, x.rivals(o, n), y.rivals(o, n)); break; }
            case 19: { int w = near(0, 1); due(log, "shun " + o + " " + w, x.shun(o, w), y.shun(o, w)); break; }
            case 20: { int n = near(0, 60); int q = near(0, 100); due(log, "holds " + n + " " + q, x.holds(n, q), y.holds(n, q)); break; }
            case 21: due(log, "worn", x.worn(), y.worn()); break;
            case 22: {
                int b = draw(3) == 0 || !y.isOpinion(o) ? v : y.now.beliefs.get(o);
                due(log, "thought " + o + " " + b, x.thought(o, b), y.thought(o, b));
                break;
            }
            case 23: case 24: { int i = near(-4, 12); due(log, "leftOut " + i, x.leftOut(i), y.leftOut(i)); break; }
            case 25: case 26: due(log, "strengths " + f + " " + sheet, x.strengths(f, sheet), y.strengths(f, sheet)); break;
            case 27: {
                int b = draw(9) == 0 || !y.isOpinion(o) ? v : y.now.beliefs.get(o);
                due(log, "write " + o + " " + b, x.write(o, b), y.write(o, b));
                break;
            }
            case 28: due(log, "judge", x.judge(), y.judge()); break;
            case 29: if (draw(4) == 0) due(log, "tear", x.tear(), y.tear()); break;
            case 30: { int w = near(0, Integer.MAX_VALUE - 1); due(log, "seed " + w, x.seed(w), y.seed(w)); break; }
            case 31: { int i = near(0, 1); if (draw(2) == 0) due(log, "keep " + i, x.keep(i), y.keep(i)); break; }
            case 32: { int i = near(0, 1); if (draw(2) == 0) due(log, "goBack " + i, x.goBack(i), y.goBack(i)); break; }
            default: due(log, "fault", x.fault(), y.fault());
        }
        return 1;
    }

    /** One fact, as told. */
    private record Fact(int o, int d, int p, int v, int c) {
        int by() {
            return d - 9;
        }
    }

    /** What can be undone: a value that is never changed. */
    private static final class World {
        final List<Integer> beliefs;
        final List<Integer> reads;
        final List<Boolean> isSo;
        final int nights;
        final int cost;
        final int shown;

        World(List<Integer> beliefs, List<Integer> reads, List<Boolean> isSo, int nights, int cost, int shown) {
            this.beliefs = List.copyOf(beliefs);
            this.reads = List.copyOf(reads);
            this.isSo = List.copyOf(isSo);
            this.nights = nights;
            this.cost = cost;
            this.shown = shown;
        }

        int so() {
            int set = 0;
            for (int f = 0; f < isSo.size(); f++) {
                set += isSo.get(f) ? 1 << f : 0;
            }
            return set;
        }

        World with(int o, int belief) {
            List<Integer> other = new ArrayList<>(beliefs);
            other.set(o, belief);
            return new World(other, reads, isSo, nights, cost, shown);
        }

        World withSo(int f, int price) {
            List<Boolean> other = new ArrayList<>(isSo);
            other.set(f, true);
            return new World(beliefs, reads, other, nights, cost + price, shown);
        }

        World reading(int f, Fact fact) {
            int by = fact.p() == 9 || beliefs.get(fact.p()) >= fact.v() ? fact.by() / (reads.get(f) + 1) : 0;
            int belief = beliefs.get(fact.o()) + by;
            List<Integer> often = new ArrayList<>(reads);
            often.set(f, often.get(f) + 1);
            return new World(with(fact.o(), belief < 0 ? 0 : belief > 20 ? 20 : belief).beliefs, often, isSo, nights, cost, shown);
        }
    }

    private static final class Model {
        final StringBuilder text = new StringBuilder();
        int k = 0;
        int h = 10;
        int faultAt = NONE;
        List<Integer> first = new ArrayList<>();
        List<Fact> facts = new ArrayList<>();
        World now = new World(List.of(), List.of(), List.of(), 0, 0, NONE);
        final Deque<World> past = new ArrayDeque<>();
        final List<int[]> thoughts = new ArrayList<>();
        final List<int[]> book = new ArrayList<>();
        final World[] images = new World[2];
        final long[] imageSeeds = new long[2];
        long seed = 0;

        int feed(int letter) {
            if (letter < 0 || letter > 255) {
                return OUTSIDE;
            }
            if (text.length() == 240) {
                return FULL;
            }
            text.append((char) letter);
            return text.length();
        }

        int city() {
            Reading r = new Reading(text + "\uffff", text.length());
            text.setLength(0);
            r.run();
            faultAt = r.fault == 0 ? NONE : r.faultAt;
            if (r.fault != 0) {
                return -10 - r.fault;
            }
            k = r.k;
            h = r.h == 0 ? 10 : r.h;
            first = r.beliefs;
            facts = r.facts;
            List<Integer> reads = new ArrayList<>();
            List<Boolean> so = new ArrayList<>();
            for (Fact f : facts) {
                reads.add(0);
                so.add(f.c() == 0);
            }
            now = new World(first, reads, so, 0, 0, NONE);
            past.clear();
            thoughts.clear();
            book.clear();
            images[0] = null;
            images[1] = null;
            return facts.size();
        }

        int fault() {
            return faultAt;
        }

        int told(int what) {
            int[] all = {k, first.size(), facts.size(), h, text.length(), now.nights, now.cost, convinced(now), now.so(), now.shown,
                thoughts.size(), book.size(), past.size()};
            return what < 0 || what >= all.length ? OUTSIDE : all[what];
        }

        boolean isOpinion(int o) {
            return o >= 0 && o < first.size();
        }

        boolean isFact(int f) {
            return f >= 0 && f < facts.size();
        }

        boolean isSheet(int sheet) {
            return sheet >= 0 && sheet < 1 << facts.size();
        }

        boolean mayBe(int sheet) {
            return !first.isEmpty() && Integer.bitCount(sheet) <= k && (sheet | now.so()) == now.so();
        }

        int convinced(World w) {
            int set = 0;
            for (int o = 0; o < w.beliefs.size(); o++) {
                set += w.beliefs.get(o) >= h ? 1 << o : 0;
            }
            return set;
        }

        World behind(World w, int sheet, List<Fact> told) {
            int shown = NONE;
            World then = w;
            for (int f = 0; f < told.size(); f++) {
                if ((sheet >> f & 1) == 1) {
                    int before = convinced(then);
                    then = then.reading(f, told.get(f));
                    if (shown == NONE && (convinced(then) & ~before) != 0) {
                        shown = f;
                    }
                }
            }
            return new World(then.beliefs, then.reads, then.isSo, w.nights + 1, w.cost, shown);
        }

        void done(World then) {
            past.push(now);
            if (past.size() > 20) {
                past.removeLast();
            }
            now = then;
        }

        int belief(int o) {
            return isOpinion(o) ? now.beliefs.get(o) : UNKNOWN;
        }

        int fact(int f, int what) {
            if (!isFact(f)) {
                return UNKNOWN;
            }
            Fact t = facts.get(f);
            int[] all = {t.o(), t.d(), t.p() == 9 ? NONE : t.p(), t.v(), t.c(), now.isSo.get(f) ? 1 : 0, now.reads.get(f)};
            return what < 0 || what >= all.length ? OUTSIDE : all[what];
        }

        int night(int sheet) {
            if (!isSheet(sheet)) {
                return UNKNOWN;
            }
            if (!mayBe(sheet)) {
                return NOT;
            }
            done(behind(now, sheet, facts));
            return now.shown;
        }

        int meet(int o, int v) {
            if (!isOpinion(o)) {
                return UNKNOWN;
            }
            if (v < 0 || v > 20) {
                return OUTSIDE;
            }
            done(now.with(o, (now.beliefs.get(o) * 2 + v) / 3));
            return now.beliefs.get(o);
        }

        int make(int f) {
            if (!isFact(f)) {
                return UNKNOWN;
            }
            if (now.isSo.get(f)) {
                return NOT;
            }
            done(now.withSo(f, facts.get(f).c()));
            return now.cost;
        }

        int drift(int n) {
            if (n < 1 || n > 60) {
                return OUTSIDE;
            }
            if (first.isEmpty()) {
                return NOT;
            }
            World then = now;
            for (int i = 0; i < n; i++) {
                List<Integer> sheet = new ArrayList<>();
                for (int f = 0; f < facts.size(); f++) {
                    if (now.isSo.get(f) && sheet.size() < k) {
                        seed = (seed * 1103515245L + 12345L) % (1L << 31);
                        if (seed / 65536 % 3 == 0) {
                            sheet.add(f);
                        }
                    }
                }
                then = behind(then, sheet.stream().mapToInt(f -> 1 << f).sum(), facts);
            }
            done(then);
            return now.nights;
        }

        int undo() {
            if (past.isEmpty()) {
                return NOT;
            }
            now = past.pop();
            return past.size();
        }

        int thinks(int sheet, int o) {
            if (!isSheet(sheet) || o != NONE && !isOpinion(o)) {
                return UNKNOWN;
            }
            if (!mayBe(sheet)) {
                return NOT;
            }
            World then = behind(now, sheet, facts);
            return o == NONE ? then.shown : then.beliefs.get(o);
        }

        List<Integer> sheets() {
            List<Integer> all = new ArrayList<>();
            for (int s = 0; s < 256 && !first.isEmpty(); s++) {
                if (isSheet(s) && mayBe(s)) {
                    all.add(s);
                }
            }
            return all;
        }

        boolean reached(World w, int all, int none) {
            return (~convinced(w) & all) == 0 && (convinced(w) & none) == 0;
        }

        List<Integer> way(int all, int none) {
            if (reached(now, all, none)) {
                return List.of();
            }
            List<Integer> sheets = sheets();
            List<World> behind = new ArrayList<>();
            for (int s : sheets) {
                World w = behind(now, s, facts);
                if (reached(w, all, none)) {
                    return List.of(s);
                }
                behind.add(w);
            }
            for (int i = 0; i < sheets.size(); i++) {
                for (int t : sheets) {
                    if (reached(behind(behind.get(i), t, facts), all, none)) {
                        return List.of(sheets.get(i), t);
                    }
                }
            }
            return null;
        }

        int soonest(int all, int none, int i) {
            int bound = 1 << first.size();
            if (all < 0 || all >= bound || none < 0 || none >= bound) {
                return UNKNOWN;
            }
            List<Integer> way = way(all, none);
            if (way == null || i < NONE || i >= way.size()) {
                return NONE;
            }
            return i == NONE ? way.size() : way.get(i);
        }

        int cannot() {
            int set = 0;
            for (int o = 0; o < first.size(); o++) {
                set += way(1 << o, 0) == null ? 1 << o : 0;
            }
            return set;
        }

        int least(int o, int what) {
            if (!isOpinion(o)) {
                return UNKNOWN;
            }
            if (what != 0 && what != 1) {
                return OUTSIDE;
            }
            int bestCost = 1000;
            int bestSet = 1000;
            for (int made = 0; made < 1 << facts.size(); made++) {
                if ((made & now.so()) != 0) {
                    continue;
                }
                int cost = 0;
                for (int f = 0; f < facts.size(); f++) {
                    cost += (made >> f & 1) * facts.get(f).c();
                }
                for (int s = 0; cost < bestCost && s < 1 << facts.size(); s++) {
                    boolean may = Integer.bitCount(s) <= k && (s & ~(made | now.so())) == 0;
                    if (may && (convinced(behind(now, s, facts)) >> o & 1) == 1) {
                        bestCost = cost;
                        bestSet = made;
                    }
                }
            }
            return bestCost == 1000 ? NONE : what == 0 ? bestCost : bestSet;
        }

        int ends(World w, int o, List<Integer> left, int turns, boolean great) {
            if (turns == 0 || left.isEmpty()) {
                return w.beliefs.get(o);
            }
            List<Integer> ends = new ArrayList<>();
            for (int f : left) {
                List<Integer> others = new ArrayList<>(left);
                others.remove((Integer) f);
                ends.add(ends(w.reading(f, facts.get(f)), o, others, turns - 1, !great));
            }
            return great ? ends.stream().max(Integer::compare).get() : ends.stream().min(Integer::compare).get();
        }

        int rivals(int o, int n) {
            if (!isOpinion(o)) {
                return UNKNOWN;
            }
            if (n < 1 || n > 4) {
                return OUTSIDE;
            }
            List<Integer> left = new ArrayList<>();
            for (int f = 0; f < facts.size(); f++) {
                if (now.isSo.get(f)) {
                    left.add(f);
                }
            }
            return ends(now, o, left, n, true);
        }

        int shun(int o, int what) {
            if (!isOpinion(o)) {
                return UNKNOWN;
            }
            if (what != 0 && what != 1) {
                return OUTSIDE;
            }
            List<Integer> all = new ArrayList<>();
            for (int v = 0; v <= 20; v++) {
                if (now.beliefs.get(o) >= h && (2 * now.beliefs.get(o) + v) / 3 < h) {
                    all.add(v);
                }
            }
            return all.isEmpty() ? NONE : all.get(what == 0 ? 0 : all.size() - 1);
        }

        int holds(int n, int q) {
            if (n < 0 || n > 60 || q < 0 || q > 100) {
                return OUTSIDE;
            }
            return n == 0 ? 1000000000 : (int) ((long) holds(n - 1, q) * (100 - q) / 100);
        }

        int worn() {
            int set = 0;
            for (int f = 0; f < facts.size(); f++) {
                set += Math.abs(facts.get(f).by()) <= now.reads.get(f) ? 1 << f : 0;
            }
            return set;
        }

        int note(List<int[]> list, int most, int o, int b) {
            if (!isOpinion(o)) {
                return UNKNOWN;
            }
            if (b < 0 || b > 20) {
                return OUTSIDE;
            }
            if (list.size() == most) {
                return FULL;
            }
            list.add(new int[] {o, b});
            return list.size();
        }

        int wrong(List<int[]> list, World w) {
            for (int[] told : list) {
                if (w.beliefs.get(told[0]) != told[1]) {
                    return list.indexOf(told);
                }
            }
            return NONE;
        }

        int thought(int o, int b) {
            return note(thoughts, 6, o, b);
        }

        int write(int o, int b) {
            return note(book, 15, o, b);
        }

        int judge() {
            return wrong(book, now);
        }

        int tear() {
            int both = thoughts.size() + book.size();
            thoughts.clear();
            book.clear();
            return both;
        }

        int leftOut(int i) {
            List<Integer> fit = new ArrayList<>();
            for (int s : sheets()) {
                if (wrong(thoughts, behind(now, s, facts)) == NONE) {
                    fit.add(s);
                }
            }
            int sure = 0;
            int out = 0;
            for (int f = 0; f < facts.size(); f++) {
                int bit = 1 << f;
                sure += !fit.isEmpty() && fit.stream().allMatch(s -> (s & bit) != 0) ? bit : 0;
                out += now.isSo.get(f) && fit.stream().noneMatch(s -> (s & bit) != 0) ? bit : 0;
            }
            return i == -1 ? fit.size() : i == -2 ? sure : i == -3 ? out : i < 0 || i >= fit.size() ? NONE : fit.get(i);
        }

        int strengths(int f, int sheet) {
            if (!isFact(f) || !isSheet(sheet)) {
                return UNKNOWN;
            }
            if (!mayBe(sheet)) {
                return NOT;
            }
            int set = 0;
            for (int d = 0; d < 19; d++) {
                List<Fact> other = new ArrayList<>(facts);
                Fact t = facts.get(f);
                other.set(f, new Fact(t.o(), d, t.p(), t.v(), t.c()));
                set += wrong(thoughts, behind(now, sheet, other)) == NONE ? 1 << d : 0;
            }
            return set;
        }

        int seed(int v) {
            if (v < 0) {
                return OUTSIDE;
            }
            int was = (int) seed;
            seed = v;
            return was;
        }

        int keep(int i) {
            if (i != 0 && i != 1) {
                return UNKNOWN;
            }
            images[i] = now;
            imageSeeds[i] = seed;
            past.clear();
            return 1;
        }

        int goBack(int i) {
            if (i != 0 && i != 1) {
                return UNKNOWN;
            }
            if (images[i] == null) {
                return NOT;
            }
            now = images[i];
            seed = imageSeeds[i];
            past.clear();
            return 1;
        }
    }

    /** Reads a text letter by letter, by what may stand at each: a table of slots, not a descent. */
    private static final class Reading {
        final String text;
        final int end;
        int fault = 0;
        int faultAt = 0;
        int k;
        int h;
        List<Integer> beliefs = new ArrayList<>();
        List<Fact> facts = new ArrayList<>();

        Reading(String text, int end) {
            this.text = text;
            this.end = end;
        }

        void put(int number, int place) {
            if (fault == 0 || place < faultAt || place == faultAt && number < fault) {
                fault = number;
                faultAt = place;
            }
        }

        /** Whether a number may stand behind these numbers of a clause, the latest sign being a comma or not. */
        boolean numberNext(char word, int had, boolean comma) {
            return word == 'r' ? had < 2 || comma : word == 'f' ? had < 5 : word == 'h' && had < 1;
        }

        boolean bad(char word, int had, String figures) {
            if (figures.length() > 3) {
                return true;
            }
            int n = Integer.parseInt(figures);
            switch (word) {
                case 'r': return had == 0 ? n < 1 || n > 3 : n > 20;
                case 'h': return n < 1 || n > 20;
                default:
                    int count = beliefs.size();
                    return had == 0 ? n >= count : had == 1 ? n > 18 : had == 2 ? n >= count && n != 9 : had == 3 ? n > 20 : n > 9;
            }
        }

        void run() {
            char word = 0;
            boolean anyR = false;
            boolean anyH = false;
            int fs = 0;
            boolean comma = false;
            List<Integer> had = new ArrayList<>();
            for (int i = 0; i <= end && fault == 0; i++) {
                char c = text.charAt(i);
                boolean atEnd = i == end;
                if (c == ' ') {
                    continue;
                }
                if (word == 0) {
                    if (atEnd) {
                        return;
                    }
                    boolean again = c == 'r' && anyR || c == 'h' && anyH || c == 'f' && fs == 8;
                    if ("rfh".indexOf(c) < 0 || c != 'r' && !anyR) {
                        put(1, i);
                    } else if (again) {
                        put(3, i);
                    }
                    word = c;
                    anyR |= c == 'r';
                    anyH |= c == 'h';
                    fs += c == 'f' ? 1 : 0;
                    had.clear();
                    comma = false;
                } else if (!atEnd && c >= '0' && c <= '9') {
                    int j = i;
                    while (j < end && text.charAt(j) >= '0' && text.charAt(j) <= '9') {
                        j++;
                    }
                    if (!numberNext(word, had.size(), comma)) {
                        put(1, i);
                    } else if (bad(word, had.size(), text.substring(i, j))) {
                        put(2, i);
                    } else {
                        had.add(Integer.parseInt(text.substring(i, j)));
                        comma = false;
                        i = j - 1;
                    }
                } else if (!atEnd && c == ',' && word == 'r' && had.size() >= 2 && had.size() < 6 && !comma) {
                    comma = true;
                } else if (!atEnd && c == ';' && (word == 'r' ? had.size() > 1 && !comma : !numberNext(word, had.size(), comma))) {
                    closed(word, had);
                    word = 0;
                } else {
                    put(1, i);
                }
            }
        }

        void closed(char word, List<Integer> had) {
            if (word == 'r') {
                k = had.get(0);
                beliefs = new ArrayList<>(had.subList(1, had.size()));
            } else if (word == 'h') {
                h = had.get(0);
            } else {
                facts.add(new Fact(had.get(0), had.get(1), had.get(2), had.get(3), had.get(4)));
            }
        }
    }
}
