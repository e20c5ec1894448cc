import java.io.IOException;
import java.util.function.IntUnaryOperator;

/** Promises 1 to 29: under each heading, for each sentence that names a boundary case, a test of its own. */
public final class PromiseBounds extends Sentences {
    private static final String FACT = "f0 9 9 0 0;";
    /** What is no opinion of three, no fact of six, no image, no bound of small ones, whichever is asked. */
    private static final int[] FAR = {MIN, MIN + 1, UNKNOWN, -256, -2, 256, 1 << 30, MAX - 1, MAX};
    private static final int[] NO_SET_OF_EIGHT = {MIN, MIN + 1, -256, -255, -2, 256, 257, 1 << 16, 1 << 30, MAX};

    public static void main(String[] args) throws IOException {
        open(args);
        newObject();
        feed();
        city();
        fault();
        told();
        belief();
        fact();
        night();
        meet();
        make();
        drift();
        undo();
        thinks();
        soonest();
        cannot();
        least();
        rivals();
        shun();
        holds();
        worn();
        thought();
        leftOut();
        strengths();
        write();
        tear();
        judge();
        seed();
        keep();
        goBack();
        end("the promises' bounds hold");
    }

    /** Each of these numbers, and the two told ones just beyond the bounds, are answered by the refusal. */
    private static void refuses(String call, int refusal, int below, int above, IntUnaryOperator of) {
        due(call + " of " + below, of.applyAsInt(below), refusal);
        due(call + " of " + above, of.applyAsInt(above), refusal);
        for (int far : FAR) {
            if (far <= below || far >= above) {
                due(call + " of " + far, of.applyAsInt(far), refusal);
            }
        }
    }

    private static void refusesSets(String call, int least, IntUnaryOperator of) {
        due(call + " of " + least, of.applyAsInt(least), UNKNOWN);
        due(call + " of " + (least | 1), of.applyAsInt(least | 1), UNKNOWN);
        due(call + " of -1", of.applyAsInt(-1), UNKNOWN);
        for (int set : NO_SET_OF_EIGHT) {
            due(call + " of " + set, of.applyAsInt(set), UNKNOWN);
        }
    }

    private static SingleCopy paper() {
        return of(PAPER);
    }

    /** More nights than an object's calls can bring: so the refusal for it can be seen at all. */
    private static SingleCopy tired(int nights) {
        SingleCopy x = of("r1 10;" + FACT);
        for (int i = 0; i < nights / 60; i++) {
            x.drift(60);
        }
        for (int i = 0; i < nights % 60; i++) {
            x.night(0);
        }
        due("nights", x.told(5), nights);
        return x;
    }

    private static void newObject() {
        under("Promise 1: A new object");
        says("No OPINIONS.");
        SingleCopy x = new SingleCopy();
        int[] tolds = {0, 0, 0, 10, 0, 0, 0, 0, 0, NONE, 0, 0, 0};
        for (int what = 0; what < tolds.length; what++) {
            due("told(" + what + ")", x.told(what), tolds[what]);
        }
        due("belief(0)", x.belief(0), UNKNOWN);
        due("fact(0, 0)", x.fact(0, 0), UNKNOWN);
        due("night(0)", x.night(0), NOT);
        due("meet(0, 0)", x.meet(0, 0), UNKNOWN);
        due("make(0)", x.make(0), UNKNOWN);
        due("drift(1)", x.drift(1), NOT);
        due("undo()", x.undo(), NOT);
        due("thinks(0, NONE)", x.thinks(0, NONE), NOT);
        due("thinks(0, 0)", x.thinks(0, 0), UNKNOWN);
        due("soonest(0, 0, NONE)", x.soonest(0, 0, NONE), 0);
        due("soonest(0, 0, 0)", x.soonest(0, 0, 0), NONE);
        due("soonest(1, 0, NONE)", x.soonest(1, 0, NONE), UNKNOWN);
        due("cannot()", x.cannot(), 0);
        due("least(0, 0)", x.least(0, 0), UNKNOWN);
        due("rivals(0, 1)", x.rivals(0, 1), UNKNOWN);
        due("shun(0, 0)", x.shun(0, 0), UNKNOWN);
        due("worn()", x.worn(), 0);
        due("thought(0, 0)", x.thought(0, 0), UNKNOWN);
        due("leftOut(NONE)", x.leftOut(NONE), 0);
        due("strengths(0, 0)", x.strengths(0, 0), UNKNOWN);
        due("write(0, 0)", x.write(0, 0), UNKNOWN);
        due("tear()", x.tear(), 0);
        due("judge()", x.judge(), NONE);
        due("fault()", x.fault(), NONE);
        due("goBack(0)", x.goBack(0), NOT);
        due("goBack(1)", x.goBack(1), NOT);
        due("seed(0)", x.seed(0), 0);
        allNamed("Promise 1: A new object");
    }

    // ---- the city

    private static void feed() {
        under("Promise 2: feed");
        says("One letter (a number 0 .. 255) comes behind THE TEXT: how many it has.");
        SingleCopy x = new SingleCopy();
        for (int letter = 0; letter < 240; letter++) {
            due("feed(" + letter + ")", x.feed(letter), letter + 1);
        }
        SingleCopy y = new SingleCopy();
        for (int letter = 240; letter <= 255; letter++) {
            due("feed(" + letter + ")", y.feed(letter), letter - 239);
        }
        says("OUTSIDE,");
        refuses("feed", OUTSIDE, -1, 256, y::feed);
        due("letters", y.told(4), 16);
        says("FULL (240).");
        due("the 241st", x.feed(0), FULL);
        due("and on", x.feed(255), FULL);
        due("letters", x.told(4), 240);
        x.city();
        due("the text is empty then", x.feed(0), 1);
        allNamed("Promise 2: feed");
    }

    private static void city() {
        under("Promise 3: city");
        says("THE TEXT (it is empty then, with a FAULT, too) becomes THE CITY");
        SingleCopy x = paper();
        due("letters", x.told(4), 0);
        due("a fault", read(x, "r1 1;x"), -11);
        due("letters behind a fault", x.told(4), 0);
        due("fed anew", x.feed('r'), 1);
        due("a fault of that letter alone", x.city() * 100 + x.fault(), -1100 + 1);
        becomesAnew();
        says("how many FACTS;");
        for (int facts = 0; facts <= 8; facts++) {
            due("facts", read(new SingleCopy(), "r1 10;" + FACT.repeat(facts)), facts);
        }
        due("an empty text", x.city(), 0);
        says("-10 less the number of its FAULT (all else is as it was).");
        due("1", read(x, "q"), -11);
        due("2", read(x, "r0 1;"), -12);
        due("3", read(x, "r1 1;r"), -13);
        faultLeavesAll();
        allNamed("Promise 3: city");
    }

    private static void becomesAnew() {
        says("(NIGHT 0, nothing read, COST 0; nothing THOUGHT, no BOOK; IMAGES, what could be undone are gone; THE SEED stays):");
        SingleCopy x = paper();
        x.seed(77);
        x.night(1);
        x.make(3);
        x.keep(0);
        x.keep(1);
        x.night(1);
        x.thought(0, 1);
        x.write(0, 1);
        int seed = x.seed(77);
        read(x, PAPER);
        due("the seed", x.seed(77), 77);
        due("the seed as it was", seed, 77);
        due("what stands behind city()", look(x), look(seeded(paper(), 77)));
        due("showed", x.told(9), NONE);
        due("undo()", x.undo(), NOT);
        due("image 0", x.goBack(0), NOT);
        due("image 1", x.goBack(1), NOT);
        x.night(3);
        x.keep(0);
        due("the empty text", x.city(), 0);
        due("what stands behind it", look(x), look(seeded(new SingleCopy(), 77)));
        due("image 0, without opinions", x.goBack(0), NOT);
        x = of("r1 20,20;h20;");
        due("the untold H behind a told one", read(x, "r2 9,10,11;"), 0);
        due("convinced of", x.told(7), 6);
    }

    private static SingleCopy seeded(SingleCopy x, int seed) {
        x.seed(seed);
        return x;
    }

    private static SingleCopy used() {
        SingleCopy x = seeded(paper(), 5);
        x.night(3);
        x.make(4);
        x.keep(1);
        x.drift(2);
        x.meet(1, 0);
        x.thought(2, 3);
        x.write(1, x.belief(1));
        return x;
    }

    private static void faultLeavesAll() {
        String[] faulty = {"x", "r4", "r3 20,20,20,20,20;h1;" + FACT + "f0 18 9 0 0;h", "r1 1;f0 0 9 0 9;r"};
        for (String text : faulty) {
            SingleCopy x = used();
            SingleCopy y = used();
            due("a fault", read(x, text) < -10 ? 1 : 0, 1);
            read(y, "r1 10;h");
            due("the fault of '" + text + "'", x.fault() == NONE ? 1 : 0, 0);
            read(x, "r1 10;h");
            due("all behind '" + text + "'", everything(x), everything(y));
            SingleCopy z = used();
            String before = look(z);
            read(z, text);
            due("what stands behind '" + text + "'", look(z), before);
        }
    }

    private static void fault() {
        under("Promise 4: fault");
        says("The place (from 0 on) of the letter that has the FAULT of the latest city(); NONE.");
        SingleCopy x = new SingleCopy();
        due("ahead of any city()", x.fault(), NONE);
        read(x, "x");
        due("the first letter", x.fault(), 0);
        read(x, "r1 1;" + " ".repeat(234) + "x");
        due("the last letter", x.fault(), 239);
        read(x, "r1 1" + " ".repeat(236));
        due("the end", x.fault(), 240);
        x.feed('r');
        due("the next text is not read yet", x.fault(), 240);
        x.city();
        due("the latest", x.fault(), 1);
        x.city();
        due("an empty text", x.fault(), NONE);
        read(x, "q");
        read(x, "r1 1;");
        due("no fault", x.fault(), NONE);
        allNamed("Promise 4: fault");
    }

    private static void told() {
        under("Promise 5: told");
        says("0 K, 1 OPINIONS, 2 FACTS, 3 H, 4 letters of THE TEXT, 5 NIGHTS, 6 COST, 7 OPINIONS of which he is CONVINCED, "
            + "8 FACTS that are so (SETS), 9 the FACT that he SHOWED in the latest NIGHT (NONE), 10 how many are THOUGHT, "
            + "11 entries of THE BOOK, 12 how many can be undone.");
        SingleCopy x = of("r3 20,20,20,20,19;" + FACT.repeat(7) + "f4 18 9 0 9;h20;");
        tolds(x, 3, 5, 8, 20, 0, 0, 0, 15, 127, NONE, 0, 0, 0);
        x.make(7);
        x.night(128);
        x.thought(0, 0);
        x.write(0, 0);
        x.write(0, 0);
        x.feed(32);
        tolds(x, 3, 5, 8, 20, 1, 1, 9, 31, 255, 7, 1, 2, 2);
        x.night(0);
        due("the latest night: none shown", x.told(9), NONE);
        x.undo();
        due("the night ahead of it is the latest again", x.told(9), 7);
        read(x, "r1 0;h1;");
        tolds(x, 1, 1, 0, 1, 0, 0, 0, 0, 0, NONE, 0, 0, 0);
        says("OUTSIDE.");
        refuses("told", OUTSIDE, -1, 13, x::told);
        allNamed("Promise 5: told");
    }

    private static void tolds(SingleCopy x, int... answers) {
        for (int what = 0; what < answers.length; what++) {
            due("told(" + what + ")", x.told(what), answers[what]);
        }
    }

    private static void belief() {
        under("Promise 6: belief");
        says("BELIEF now.");
        SingleCopy x = of("r1 0,20,1,2,3;f0 18 9 0 0;");
        int[] beliefs = {0, 20, 1, 2, 3};
        for (int o = 0; o < 5; o++) {
            due("belief(" + o + ")", x.belief(o), beliefs[o]);
        }
        x.night(1);
        due("now", x.belief(0), 9);
        says("UNKNOWN.");
        refuses("belief, five opinions", UNKNOWN, -1, 5, x::belief);
        refuses("belief, three opinions", UNKNOWN, -1, 3, paper()::belief);
        refuses("belief, no opinions", UNKNOWN, -1, 0, new SingleCopy()::belief);
        allNamed("Promise 6: belief");
    }

    private static void fact() {
        under("Promise 7: fact");
        says("Of a FACT: what = 0 O, 1 D, and 9, 2 P (NONE), 3 V, 4 C (as told), 5 1 it is so, 0 not, 6 how often it was read.");
        SingleCopy x = of("r1 0,0,0,0,0;f0 0 0 0 0;f4 18 4 20 9;f2 9 9 7 1;");
        int[][] facts = {{0, 0, 0, 0, 0, 1, 0}, {4, 18, 4, 20, 9, 0, 0}, {2, 9, NONE, 7, 1, 0, 0}};
        for (int f = 0; f < facts.length; f++) {
            for (int what = 0; what <= 6; what++) {
                due("fact(" + f + ", " + what + ")", x.fact(f, what), facts[f][what]);
            }
        }
        x.make(1);
        x.night(2);
        x.night(2);
        due("C as told", x.fact(1, 4), 9);
        due("it is so", x.fact(1, 5), 1);
        due("how often", x.fact(1, 6), 2);
        says("UNKNOWN,");
        refuses("fact, three facts", UNKNOWN, -1, 3, f -> x.fact(f, 0));
        refuses("fact, eight facts", UNKNOWN, -1, 8, f -> of("r1 1;" + FACT.repeat(8)).fact(f, 6));
        refuses("fact, no facts", UNKNOWN, -1, 0, f -> of("r1 1;").fact(f, 6));
        says("OUTSIDE.");
        refuses("fact of 0", OUTSIDE, -1, 7, what -> x.fact(0, what));
        allNamed("Promise 7: fact");
    }

    // ---- what is done

    private static void night() {
        under("Promise 8: night");
        says("A NIGHT with a SHEET: the FACT that he SHOWS; NONE.");
        due("the first fact", of("r3 9;" + "f0 10 9 0 0;".repeat(8)).night(7), 0);
        due("the last fact", of("r1 9;" + "f0 10 9 0 0;".repeat(8)).night(128), 7);
        due("the empty sheet", paper().night(0), NONE);
        due("without facts", of("r1 10;").night(0), NONE);
        says("UNKNOWN,");
        SingleCopy x = paper();
        refusesSets("night, six facts", 64, x::night);
        refusesSets("night, eight facts", 256, of("r3 9;" + FACT.repeat(8))::night);
        refusesSets("night, no facts", 1, of("r3 9;")::night);
        says("NOT: no OPINIONS, one is not so, more than K;");
        due("no opinions", new SingleCopy().night(0), NOT);
        due("one is not so", x.night(16), NOT);
        due("one of two is not so", x.night(17), NOT);
        due("more than K", x.night(35), NOT);
        due("K", x.night(34), NONE);
        says("FULL: NIGHTS are above 90000.");
        SingleCopy y = tired(90000);
        due("just 90000", y.night(0), NONE);
        due("90001", y.night(0), FULL);
        due("nights", y.told(5), 90001);
        due("unknown ahead of it", y.night(2), UNKNOWN);
        due("kept for undoing", y.told(12), 20);
        y.undo();
        due("90000 again", y.night(1), NONE);
        allNamed("Promise 8: night");
    }

    private static void meet() {
        under("Promise 9: meet");
        says("MET: BELIEF then.");
        SingleCopy x = of("r1 20,0,7;");
        due("20 by 20", x.meet(0, 20), 20);
        due("20 by 0", x.meet(0, 0), 13);
        due("0 by 0", x.meet(1, 0), 0);
        due("0 by 2", x.meet(1, 2), 0);
        due("0 by 20", x.meet(1, 20), 6);
        due("the last opinion", x.meet(2, 8), 7);
        says("UNKNOWN,");
        refuses("meet", UNKNOWN, -1, 3, o -> x.meet(o, 5));
        refuses("meet, no opinions", UNKNOWN, -1, 0, o -> new SingleCopy().meet(o, 5));
        says("OUTSIDE (v 0 .. 20).");
        refuses("meet of 0", OUTSIDE, -1, 21, v -> x.meet(0, v));
        due("belief as it was", x.belief(0), 13);
        allNamed("Promise 9: meet");
    }

    private static void make() {
        under("Promise 10: make");
        says("MADE SO: COST of all.");
        SingleCopy x = of("r1 1;f0 9 9 0 1;" + FACT.repeat(6) + "f0 9 9 0 9;");
        due("the last fact", x.make(7), 9);
        due("the first one", x.make(0), 10);
        due("cost", x.told(6), 10);
        says("UNKNOWN,");
        refuses("make", UNKNOWN, -1, 8, x::make);
        refuses("make, no facts", UNKNOWN, -1, 0, of("r1 1;")::make);
        says("NOT: it is so.");
        due("made so", x.make(7), NOT);
        due("so from the first", x.make(1), NOT);
        due("cost as it was", x.told(6), 10);
        x.undo();
        due("undone, it can be made so again", x.make(0), 10);
        allNamed("Promise 10: make");
    }

    private static void drift() {
        under("Promise 11: drift");
        says("n NIGHTS (1 .. 60) BY DRAWS: NIGHTS.");
        SingleCopy x = paper();
        due("drift(1)", x.drift(1), 1);
        due("drift(60)", x.drift(60), 61);
        due("drift(59)", x.drift(59), 120);
        says("OUTSIDE,");
        refuses("drift", OUTSIDE, 0, 61, x::drift);
        due("drift(-1)", x.drift(-1), OUTSIDE);
        says("NOT: no OPINIONS;");
        due("no opinions", new SingleCopy().drift(60), NOT);
        due("an opinion without facts", of("r1 1;").drift(60), 60);
        says("FULL: NIGHTS are above 90000 as it is called (n may pass that).");
        SingleCopy y = tired(90000);
        due("n passes that", y.drift(60), 90060);
        due("above", y.drift(1), FULL);
        y.undo();
        due("just 90000", y.drift(1), 90001);
        due("above by one", y.drift(60), FULL);
        due("outside ahead of it", y.drift(0), OUTSIDE);
        allNamed("Promise 11: drift");
    }

    private static void undo() {
        under("Promise 12: undo");
        says("The latest is undone: how many more can be.");
        SingleCopy x = of("r1 0;f0 18 9 0 0;");
        for (int i = 0; i < 20; i++) {
            x.meet(0, i);
        }
        x.night(1);
        int belief = x.belief(0);
        x.drift(60);
        due("of 20 kept", x.undo(), 19);
        due("the drift is undone", x.told(5), 1);
        due("belief", x.belief(0), belief);
        due("the night, too", x.undo(), 18);
        due("nights", x.told(5), 0);
        for (int i = 17; i >= 0; i--) {
            due("undo()", x.undo(), i);
        }
        says("NOT: none.");
        due("all that was kept is undone", x.undo(), NOT);
        due("a new object", new SingleCopy().undo(), NOT);
        due("a new city", paper().undo(), NOT);
        x.night(0);
        due("one again", x.undo(), 0);
        due("none again", x.undo(), NOT);
        allNamed("Promise 12: undo");
    }

    // ---- tried

    private static void thinks() {
        under("Promise 13: thinks");
        says("HE THINKS: o = NONE the FACT that he SHOWS (NONE), else BELIEF.");
        SingleCopy x = of("r3 9,9,9,9,9;" + FACT.repeat(7) + "f4 10 9 0 0;");
        due("the last fact, shown", x.thinks(128, NONE), 7);
        due("the last opinion", x.thinks(128, 4), 10);
        due("the first opinion", x.thinks(128, 0), 9);
        due("nothing shown", x.thinks(1, NONE), NONE);
        due("the empty sheet", x.thinks(0, NONE), NONE);
        says("UNKNOWN,");
        refusesSets("thinks", 256, sheet -> x.thinks(sheet, 0));
        refuses("thinks of an opinion", UNKNOWN, -2, 5, o -> x.thinks(0, o));
        due("no opinions", new SingleCopy().thinks(0, 0), UNKNOWN);
        says("NOT.");
        due("more than K", x.thinks(15, 0), NOT);
        due("not so", paper().thinks(8, NONE), NOT);
        due("no opinions, what he shows", new SingleCopy().thinks(0, NONE), NOT);
        allNamed("Promise 13: thinks");
    }

    private static void soonest() {
        under("Promise 14: soonest");
        says("SOONEST: i = NONE how many, else the SHEET of the i-th NIGHT; NONE (i below NONE, too).");
        SingleCopy x = of("r1 0,0,20;f0 18 9 0 0;f1 18 9 0 0;h9;");
        int[][] rows = {{4, 3, 0}, {5, 2, 1, 1}, {7, 0, 2, 1, 2}, {0, 4, NONE}, {3, 3, NONE}, {4, 3, 0}};
        for (int[] row : rows) {
            String call = "soonest(" + row[0] + ", " + row[1] + ", ";
            due(call + "NONE)", x.soonest(row[0], row[1], NONE), row[2]);
            for (int i = 0; i < 4; i++) {
                due(call + i + ")", x.soonest(row[0], row[1], i), 3 + i < row.length ? row[3 + i] : NONE);
            }
            for (int i : new int[] {-2, -3, MIN, MAX}) {
                due(call + i + ")", x.soonest(row[0], row[1], i), NONE);
            }
        }
        says("UNKNOWN.");
        refusesSets("soonest of all", 8, set -> x.soonest(set, 0, NONE));
        refusesSets("soonest of none", 8, set -> x.soonest(0, set, NONE));
        refusesSets("soonest, no opinions", 1, set -> new SingleCopy().soonest(set, 0, -2));
        refusesSets("soonest, five opinions", 32, set -> of("r1 1,1,1,1,1;").soonest(0, set, 0));
        due("all of five", of("r1 10,10,10,10,10;").soonest(31, 0, NONE), 0);
        allNamed("Promise 14: soonest");
    }

    private static void cannot() {
        under("Promise 15: cannot");
        says("CANNOT.");
        due("none of none", new SingleCopy().cannot(), 0);
        due("all", of("r3 0,0,0,0,0;").cannot(), 31);
        due("none", of("r3 10,11,12,13,20;").cannot(), 0);
        SingleCopy x = of("r1 0;f0 14 9 0 0;h7;");
        due("5 and 5 / 2", x.cannot(), 0);
        x.meet(0, 0);
        x.night(1);
        x.meet(0, 0);
        due("3, 5 / 2 and 5 / 3 from now", x.cannot(), 1);
        x.night(1);
        due("5 and 5 / 3 and 5 / 4 from now", x.cannot(), 0);
        allNamed("Promise 15: cannot");
    }

    private static void least() {
        under("Promise 16: least");
        says("MAKE: what = 0 COST, 1 the SET; NONE.");
        SingleCopy x = of("r1 0,10,0;" + FACT.repeat(7) + "f0 18 9 0 9;h9;");
        due("the last fact's cost", x.least(0, 0), 9);
        due("the last fact", x.least(0, 1), 128);
        due("so already, the cost", x.least(1, 0), 0);
        due("so already, the set", x.least(1, 1), 0);
        due("none, the cost", x.least(2, 0), NONE);
        due("none, the set", x.least(2, 1), NONE);
        x.make(7);
        due("made so, the cost", x.least(0, 0), 0);
        due("made so, the set", x.least(0, 1), 0);
        says("UNKNOWN,");
        refuses("least", UNKNOWN, -1, 3, o -> x.least(o, 0));
        due("no opinions", new SingleCopy().least(0, 0), UNKNOWN);
        says("OUTSIDE.");
        refuses("least of 0", OUTSIDE, -1, 2, what -> x.least(0, what));
        allNamed("Promise 16: least");
    }

    private static void rivals() {
        under("Promise 17: rivals");
        says("RIVALS.");
        SingleCopy x = of("r1 0,20,10;f2 18 9 0 0;f2 0 9 0 0;");
        due("at 0", x.rivals(0, 4), 0);
        due("at 20", x.rivals(1, 4), 20);
        due("one turn", x.rivals(2, 1), 19);
        due("four turns, two facts", x.rivals(2, 4), 10);
        says("UNKNOWN,");
        refuses("rivals", UNKNOWN, -1, 3, o -> x.rivals(o, 1));
        due("no opinions", new SingleCopy().rivals(0, 1), UNKNOWN);
        says("OUTSIDE.");
        refuses("rivals of 0", OUTSIDE, 0, 5, n -> x.rivals(0, n));
        due("rivals(0, -1)", x.rivals(0, -1), OUTSIDE);
        allNamed("Promise 17: rivals");
    }

    private static void shun() {
        under("Promise 18: shun");
        says("SHUN; NONE.");
        SingleCopy x = of("r1 20,10,9;");
        due("nobody, the least", x.shun(0, 0), NONE);
        due("nobody, the greatest", x.shun(0, 1), NONE);
        due("the least", x.shun(1, 0), 0);
        due("the greatest", x.shun(1, 1), 9);
        due("not convinced, the least", x.shun(2, 0), NONE);
        due("not convinced, the greatest", x.shun(2, 1), NONE);
        says("UNKNOWN,");
        refuses("shun", UNKNOWN, -1, 3, o -> x.shun(o, 0));
        due("no opinions", new SingleCopy().shun(0, 0), UNKNOWN);
        says("OUTSIDE.");
        refuses("shun of 0", OUTSIDE, -1, 2, what -> x.shun(0, what));
        refuses("shun of one of which he is not convinced", OUTSIDE, -1, 2, what -> x.shun(2, what));
        allNamed("Promise 18: shun");
    }

    private static void holds() {
        under("Promise 19: holds");
        says("HOLDS (q 0 .. 100).");
        SingleCopy x = new SingleCopy();
        due("no day, whoever tells", x.holds(0, 100), 1000000000);
        due("60 days, nobody tells", x.holds(60, 0), 1000000000);
        due("a day, all tell", x.holds(1, 100), 0);
        due("60 days, all tell", x.holds(60, 100), 0);
        due("4 days, one of a hundred does not", x.holds(4, 99), 10);
        due("5 days, one of a hundred does not", x.holds(5, 99), 0);
        due("cut day by day", x.holds(10, 5), 598736937);
        says("OUTSIDE.");
        refuses("holds, n", OUTSIDE, -1, 61, n -> x.holds(n, 0));
        refuses("holds, q", OUTSIDE, -1, 101, q -> x.holds(0, q));
        allNamed("Promise 19: holds");
    }

    private static void worn() {
        under("Promise 20: worn");
        says("WORN.");
        due("no facts", new SingleCopy().worn(), 0);
        SingleCopy x = of("r3 10;f0 9 9 0 0;f0 10 9 0 0;f0 8 9 0 0;f0 18 9 0 0;f0 0 9 0 0;f0 9 9 0 9;");
        due("D 0, so or not", x.worn(), 33);
        x.night(6);
        due("1 / 2 and -1 / 2", x.worn(), 39);
        for (int i = 0; i < 8; i++) {
            x.night(24);
        }
        due("9 / 9 and -9 / 9", x.worn(), 39);
        x.night(24);
        due("9 / 10 and -9 / 10", x.worn(), 63);
        x.undo();
        due("undone", x.worn(), 39);
        allNamed("Promise 20: worn");
    }

    // ---- what is thought

    private static void thought() {
        under("Promise 21: thought");
        says("THOUGHT: how much.");
        SingleCopy x = paper();
        int[] beliefs = {0, 20, 1, 19, 10, 10};
        for (int i = 0; i < 6; i++) {
            due("thought", x.thought(i % 3, beliefs[i]), i + 1);
        }
        SingleCopy y = paper();
        says("UNKNOWN,");
        refuses("thought", UNKNOWN, -1, 3, o -> y.thought(o, 0));
        refuses("thought, when full", UNKNOWN, -1, 3, o -> x.thought(o, 0));
        due("no opinions", new SingleCopy().thought(0, 0), UNKNOWN);
        says("OUTSIDE (b 0 .. 20),");
        refuses("thought of 0", OUTSIDE, -1, 21, b -> y.thought(0, b));
        refuses("thought of 0, when full", OUTSIDE, -1, 21, b -> x.thought(0, b));
        due("none of these is thought", y.told(10), 0);
        says("FULL (6).");
        due("a seventh", x.thought(0, 0), FULL);
        due("as many as before", x.told(10), 6);
        x.tear();
        due("torn, there is room", x.thought(0, 0), 1);
        allNamed("Promise 21: thought");
    }

    private static void leftOut() {
        under("Promise 22: leftOut");
        says("LEFT OUT: i = NONE how many, -2 SURE, -3 OUT, else the i-th;");
        SingleCopy x = paper();
        x.thought(0, 13);
        due("how many", x.leftOut(NONE), 4);
        due("SURE", x.leftOut(-2), 1);
        due("OUT", x.leftOut(-3), 0);
        int[] sheets = {1, 3, 5, 33};
        for (int i = 0; i < sheets.length; i++) {
            due("leftOut(" + i + ")", x.leftOut(i), sheets[i]);
        }
        says("NONE: not so many (i below these, too).");
        for (int i : new int[] {4, 5, 92, 93, MAX, -4, -5, MIN}) {
            due("leftOut(" + i + ")", x.leftOut(i), NONE);
        }
        x.thought(0, 14);
        due("the first of none", x.leftOut(0), NONE);
        due("SURE without", x.leftOut(-2), 0);
        due("OUT without", x.leftOut(-3), PAPER_SO);
        SingleCopy y = new SingleCopy();
        for (int i : new int[] {0, 1, MAX, -4, MIN}) {
            due("no opinions, leftOut(" + i + ")", y.leftOut(i), NONE);
        }
        for (int i = -3; i <= -1; i++) {
            due("no opinions, leftOut(" + i + ")", y.leftOut(i), 0);
        }
        allNamed("Promise 22: leftOut");
    }

    private static void strengths() {
        under("Promise 23: strengths");
        says("STRENGTHS.");
        SingleCopy x = of("r1 10;" + FACT.repeat(7) + "f0 9 9 0 5;");
        x.thought(0, 19);
        due("9 alone", x.strengths(0, 1), 1 << 18);
        due("of one in another sheet", x.strengths(0, 2), 0);
        due("of one that is not so", x.strengths(7, 1), 0);
        x.tear();
        x.thought(0, 1);
        due("-9 alone", x.strengths(6, 64), 1);
        x.tear();
        due("nothing thought", x.strengths(7, 0), (1 << 19) - 1);
        says("UNKNOWN,");
        refuses("strengths", UNKNOWN, -1, 8, f -> x.strengths(f, 0));
        refusesSets("strengths behind", 256, sheet -> x.strengths(0, sheet));
        due("no opinions", new SingleCopy().strengths(0, 0), UNKNOWN);
        due("no facts", of("r1 1;").strengths(0, 0), UNKNOWN);
        says("NOT (the SHEET may not be).");
        due("not so", x.strengths(0, 128), NOT);
        due("more than K", x.strengths(0, 3), NOT);
        due("made so, it may", made(x, 7).strengths(0, 128), (1 << 19) - 1);
        allNamed("Promise 23: strengths");
    }

    private static void write() {
        under("Promise 24: write");
        says("An entry behind THE BOOK (0 .. 20): how many.");
        SingleCopy x = paper();
        for (int i = 0; i < 15; i++) {
            due("write", x.write(i % 3, i % 2 * 20), i + 1);
        }
        SingleCopy y = paper();
        says("UNKNOWN,");
        refuses("write", UNKNOWN, -1, 3, o -> y.write(o, 0));
        refuses("write, when full", UNKNOWN, -1, 3, o -> x.write(o, 0));
        due("no opinions", new SingleCopy().write(0, 0), UNKNOWN);
        says("OUTSIDE,");
        refuses("write of 0", OUTSIDE, -1, 21, b -> y.write(0, b));
        refuses("write of 0, when full", OUTSIDE, -1, 21, b -> x.write(0, b));
        due("none of these stands there", y.told(11), 0);
        says("FULL (15).");
        due("a sixteenth", x.write(0, 0), FULL);
        due("as many as before", x.told(11), 15);
        x.tear();
        due("torn, there is room", x.write(0, 0), 1);
        allNamed("Promise 24: write");
    }

    private static void tear() {
        under("Promise 25: tear");
        says("Nothing is THOUGHT, THE BOOK is empty: how much both had.");
        SingleCopy x = paper();
        due("both empty", x.tear(), 0);
        for (int i = 0; i < 15; i++) {
            x.thought(0, 1);
            x.write(0, 1);
        }
        due("wrong then", x.judge(), 0);
        due("both full", x.tear(), 21);
        due("nothing thought", x.told(10), 0);
        due("no entries", x.told(11), 0);
        due("nothing wrong", x.judge(), NONE);
        due("all sheets", x.leftOut(NONE), 11);
        x.write(0, 1);
        due("the book alone", x.tear(), 1);
        x.thought(0, 1);
        due("what is thought alone", x.tear(), 1);
        due("without opinions", new SingleCopy().tear(), 0);
        allNamed("Promise 25: tear");
    }

    private static void judge() {
        under("Promise 26: judge");
        says("WRONG; NONE.");
        SingleCopy x = paper();
        due("an empty book", x.judge(), NONE);
        for (int i = 0; i < 14; i++) {
            x.write(0, 8);
        }
        due("no entry is wrong", x.judge(), NONE);
        x.write(1, 13);
        due("the last one", x.judge(), 14);
        x.meet(0, 20);
        due("the first one", x.judge(), 0);
        x.undo();
        due("undone, the last one again", x.judge(), 14);
        x.meet(1, 15);
        due("so by now", x.judge(), NONE);
        allNamed("Promise 26: judge");
    }

    // ---- draws, images

    private static void seed() {
        under("Promise 27: seed");
        says("THE SEED becomes v (0 .. 2147483647): what it was.");
        SingleCopy x = new SingleCopy();
        due("the greatest", x.seed(2147483647), 0);
        due("the least", x.seed(0), 2147483647);
        due("what it was", x.seed(1), 0);
        says("OUTSIDE.");
        for (int v : new int[] {-1, -2, MIN, MIN + 1, UNKNOWN}) {
            due("seed(" + v + ")", x.seed(v), OUTSIDE);
        }
        due("as it was", x.seed(0), 1);
        allNamed("Promise 27: seed");
    }

    private static void keep() {
        under("Promise 28: keep");
        says("IMAGE i becomes what is so (nothing can be undone then): 1.");
        SingleCopy x = seeded(paper(), 3);
        x.night(3);
        due("keep(0)", x.keep(0), 1);
        due("how many can be undone", x.told(12), 0);
        due("undo()", x.undo(), NOT);
        String first = mind(x);
        due("keep(1)", x.keep(1), 1);
        x.drift(20);
        due("keep(1), anew", x.keep(1), 1);
        String second = mind(x);
        x.night(0);
        x.goBack(0);
        due("image 0 as it was", mind(x), first);
        x.goBack(1);
        due("image 1, the newer", mind(x), second);
        due("without opinions", new SingleCopy().keep(0), 1);
        says("UNKNOWN.");
        x.night(0);
        refuses("keep", UNKNOWN, -1, 2, x::keep);
        due("refused: it can still be undone", x.undo(), 0);
        allNamed("Promise 28: keep");
    }

    private static void goBack() {
        under("Promise 29: goBack");
        says("What is so becomes IMAGE i (nothing can be undone then): 1.");
        SingleCopy x = seeded(paper(), 3);
        x.night(3);
        x.make(3);
        String then = mind(x);
        x.keep(1);
        x.drift(60);
        x.make(4);
        x.meet(0, 0);
        due("goBack(1)", x.goBack(1), 1);
        due("what is so", mind(x), then);
        due("how many can be undone", x.told(12), 0);
        due("undo()", x.undo(), NOT);
        due("a fact of before can't be printed", x.night(16), NOT);
        x.night(0);
        due("once more", x.goBack(1), 1);
        due("what is so, once more", mind(x), then);
        says("UNKNOWN,");
        refuses("goBack", UNKNOWN, -1, 2, x::goBack);
        says("NOT: it was not kept.");
        due("image 0", x.goBack(0), NOT);
        due("a new object, 0", new SingleCopy().goBack(0), NOT);
        due("a new object, 1", new SingleCopy().goBack(1), NOT);
        x.city();
        due("gone by city()", x.goBack(1), NOT);
        x.keep(0);
        due("kept without opinions", x.goBack(0), 1);
        allNamed("Promise 29: goBack");
    }
}
