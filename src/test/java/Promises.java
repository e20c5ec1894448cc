import java.util.Arrays;

/** For each promise of the document its ordinary answers, its edges and its refusals, in their order. */
public final class Promises extends Checks {
    private static final int[] EXTREMES = {Integer.MIN_VALUE, UNKNOWN, -100, -5, 1 << 30, Integer.MAX_VALUE};

    /** A chain: each fact needs the one ahead of it to have been believed. */
    private static final String CHAIN = "r3 0,0,0,0,20;f0 18 9 0 0;f1 18 0 9 0;f2 18 1 9 0;f3 18 2 9 0;"
        + "f4 0 3 9 0;f4 0 9 0 9;f3 18 9 0 9;f0 0 9 0 1;h9;";

    public static void main(String[] args) {
        newObject();
        feed();
        city();
        cityFaults();
        fault();
        told();
        belief();
        fact();
        night();
        meet();
        make();
        drift();
        undo();
        thinks();
        soonest();
        cannot();
        least();
        rivals();
        shun();
        holds();
        worn();
        thought();
        leftOut();
        strengths();
        write();
        tear();
        judge();
        seed();
        keep();
        goBack();
        end("all promises hold");
    }

    private static void same(String what, SingleCopy x, String before) {
        due("nothing changed by " + what, look(x).equals(before) ? 1 : 0, 1);
    }

    private static void newObject() {
        heading = "promise 1";
        SingleCopy x = new SingleCopy();
        int[] tolds = {0, 0, 0, 10, 0, 0, 0, 0, 0, NONE, 0, 0, 0};
        for (int what = 0; what < tolds.length; what++) {
            due("told(" + what + ")", x.told(what), tolds[what]);
        }
        due("belief(0)", x.belief(0), UNKNOWN);
        due("fact(0, 0)", x.fact(0, 0), UNKNOWN);
        due("fault()", x.fault(), NONE);
        due("seed(0)", x.seed(0), 0);
        due("NONE", SingleCopy.NONE, NONE);
        due("UNKNOWN", SingleCopy.UNKNOWN, UNKNOWN);
        due("OUTSIDE", SingleCopy.OUTSIDE, OUTSIDE);
        due("NOT", SingleCopy.NOT, NOT);
        due("FULL", SingleCopy.FULL, FULL);
    }

    private static void feed() {
        heading = "promise 2";
        SingleCopy x = new SingleCopy();
        due("feed(-1)", x.feed(-1), OUTSIDE);
        due("feed(256)", x.feed(256), OUTSIDE);
        for (int v : EXTREMES) {
            due("feed(" + v + ")", x.feed(v), OUTSIDE);
        }
        due("feed(0)", x.feed(0), 1);
        due("feed(255)", x.feed(255), 2);
        for (int i = 3; i <= 240; i++) {
            due("feed " + i, x.feed(32), i);
        }
        due("feed 241", x.feed(32), FULL);
        due("outside ahead of full", x.feed(256), OUTSIDE);
        due("letters", x.told(4), 240);
        due("city()", x.city(), -11);
        due("feed behind city", x.feed(32), 1);
    }

    private static void city() {
        heading = "promise 3";
        SingleCopy x = of(PAPER);
        due("facts", x.told(2), 6);
        x.seed(77);
        x.night(1);
        x.make(3);
        x.thought(0, 1);
        x.write(0, 1);
        x.keep(1);
        x.meet(0, 0);
        String before = look(x);
        due("a fault", read(x, "r1 1;r"), -13);
        same("city() with a fault", x, before);
        due("the image is still there", x.goBack(1), 1);
        x.meet(0, 0);
        due("city()", read(x, "  r 3 1 , 2 ; f 0 9 9 0 5 ; "), 1);
        int[] tolds = {3, 2, 1, 10, 0, 0, 0, 0, 0, NONE, 0, 0, 0};
        for (int what = 0; what < tolds.length; what++) {
            due("told(" + what + ")", x.told(what), tolds[what]);
        }
        due("belief(0)", x.belief(0), 1);
        due("read", x.fact(0, 6), 0);
        due("goBack(1)", x.goBack(1), NOT);
        due("undo()", x.undo(), NOT);
        due("the seed stays", x.seed(0), 77);
        x.night(0);
        due("an empty text", x.city(), 0);
        due("no opinions", x.told(1), 0);
        due("no sheet size", x.told(0), 0);
        due("H", x.told(3), 10);
        due("blanks alone", read(x, "   "), 0);
        due("eight facts", read(x, CHAIN), 8);
        due("no facts", read(x, "r1 020;"), 0);
        due("belief(0)", x.belief(0), 20);
        due("numbers need blanks between them alone", read(x, "r1 1;f0 9 9 0 0;h001;f0 9 09 0 0;"), 2);
    }

    private static void faultOf(String text, int number, int place) {
        SingleCopy x = new SingleCopy();
        due("city of '" + text + "'", read(x, text), number == 0 ? x.told(2) : -10 - number);
        due("fault of '" + text + "'", x.fault(), place);
    }

    private static void cityFaults() {
        heading = "promise 3";
        String[] cannotStand = {"f", "^", "h", "^", " f0 9 9 0 0;", " ^", "R1 1;", "^", ";", "^", "1", "^", "r", " ^", "r ", "  ^",
            "r;", " ^", "r,1 1;", " ^", "r1", "  ^", "r1 ", "   ^", "r1;", "  ^", "r1,1;", "  ^", "r1 1", "    ^", "r1 1,", "     ^",
            "r1 1,;", "     ^", "r1 1 1;", "     ^", "r1 1,1,1,1,1,1;", "            ^", "r1 1,1,1,1,1 , 1;", "             ^",
            "r1 1;;", "     ^", "r1 1;x", "     ^", "r1 1;f", "      ^", "r1 1;f;", "      ^", "r1 1;f0 9 9 0;", "             ^",
            "r1 1;f0 9 9 0 0 0;", "                ^", "r1 1;f0 9 9 0 0 9999;", "                ^", "r1 1;f0 9 9 0 0",
            "               ^", "r1 1;f0,9 9 0 0;", "       ^", "r1 1;h;", "      ^", "r1 1;h1 1;", "        ^", "r1 1;h1",
            "       ^", "r1 1;h1r", "       ^", "r1\t1;", "  ^", "r-1 1;", " ^", "r1 1r", "    ^", "r1 1;f0 9 9 0 0f", "               ^"};
        for (int i = 0; i < cannotStand.length; i += 2) {
            faultOf(cannotStand[i], 1, cannotStand[i + 1].indexOf('^'));
        }
        String[] badNumbers = {"r0 1;", " ^", "r4", " ^", "r0001 1;", " ^", "r 9999x", "  ^", "r1 21;", "   ^", "r1 0000;", "   ^",
            "r1 1,1,21", "       ^", "r1 1;f1 9 9 0 0;", "      ^", "r1 1,1;f2 9 9 0 0;", "        ^", "r1 1;f0 19 9 0 0;",
            "        ^", "r1 1;f0 9 1 0 0;", "          ^", "r1 1,1;f0 9  2 0 0;", "             ^", "r1 1;f0 9 8", "          ^",
            "r1 1;f0 9 10 0 0;", "          ^", "r1 1;f0 9 0009 0 0;", "          ^", "r1 1;f0 9 9 21 0;", "            ^",
            "r1 1;f0 9 9 0 10;", "              ^", "r1 1;h0;", "      ^", "r1 1;h21;", "      ^", "r1 1;h 0001", "       ^",
            "r1 99999999999999999999;", "   ^", "r1 1;h4294967297;", "      ^"};
        for (int i = 0; i < badNumbers.length; i += 2) {
            faultOf(badNumbers[i], 2, badNumbers[i + 1].indexOf('^'));
        }
        faultOf("r1 1;r1 1;", 3, 5);
        faultOf("r1 1; r", 3, 6);
        faultOf("r1 1;h1;h1;", 3, 8);
        faultOf("r1 1;f0 9 9 0 0;h1;h99;", 3, 19);
        String eight = "r1 1;f0 9 9 0 0;f0 9 9 0 0;f0 9 9 0 0;f0 9 9 0 0;f0 9 9 0 0;f0 9 9 0 0;f0 9 9 0 0;f0 9 9 0 0;";
        faultOf(eight, 0, NONE);
        faultOf(eight + "f", 3, eight.length());
        faultOf(eight + "h20;", 0, NONE);
        faultOf(eight + "h20;f9", 3, eight.length() + 4);
        faultOf("r3 0,20,000,020,20;f4 18 4 20 9;f0 0 0 0 0;f0 9 9 20 0;h1;", 0, NONE);
    }

    private static void fault() {
        heading = "promise 4";
        SingleCopy x = new SingleCopy();
        due("ahead of any city()", x.fault(), NONE);
        read(x, "r1 1;x");
        due("fault()", x.fault(), 5);
        tell(x, "r1");
        due("while the next text comes", x.fault(), 5);
        x.city();
        due("at the end", x.fault(), 2);
        read(x, "r1 1;");
        due("without", x.fault(), NONE);
        read(x, "q");
        x.city();
        due("behind an empty text", x.fault(), NONE);
    }

    private static void told() {
        heading = "promise 5";
        SingleCopy x = of(PAPER);
        tell(x, "r1");
        x.night(1);
        x.make(3);
        x.meet(1, 20);
        x.thought(0, 1);
        x.write(0, 1);
        x.write(0, 2);
        int[] tolds = {2, 3, 6, 11, 2, 1, 3, 3, 47, 0, 1, 2, 3};
        for (int what = 0; what < tolds.length; what++) {
            due("told(" + what + ")", x.told(what), tolds[what]);
        }
        x.night(0);
        due("nothing shown", x.told(9), NONE);
        due("told(-1)", x.told(-1), OUTSIDE);
        due("told(13)", x.told(13), OUTSIDE);
        for (int v : EXTREMES) {
            due("told(" + v + ")", x.told(v), OUTSIDE);
        }
        due("convinced by just H", of("r1 9,10,11;").told(7), 6);
    }

    private static void belief() {
        heading = "promise 6";
        SingleCopy x = of(PAPER);
        due("belief(0)", x.belief(0), 8);
        due("belief(1)", x.belief(1), 12);
        due("belief(2)", x.belief(2), 3);
        due("belief(3)", x.belief(3), UNKNOWN);
        due("belief(-1)", x.belief(-1), UNKNOWN);
        x.meet(2, 20);
        due("belief(2) behind meet", x.belief(2), 8);
        for (int v : EXTREMES) {
            due("belief(" + v + ")", x.belief(v), UNKNOWN);
        }
    }

    private static void fact() {
        heading = "promise 7";
        SingleCopy x = of(PAPER);
        int[][] facts = {{0, 14, NONE, 0, 0, 1, 0}, {1, 4, 0, 10, 0, 1, 0}, {2, 18, 0, 12, 0, 1, 0},
            {0, 2, NONE, 0, 3, 0, 0}, {2, 15, 1, 5, 4, 0, 0}, {1, 17, NONE, 0, 0, 1, 0}};
        for (int f = 0; f < facts.length; f++) {
            for (int what = 0; what <= 6; what++) {
                due("fact(" + f + ", " + what + ")", x.fact(f, what), facts[f][what]);
            }
            due("fact(" + f + ", 7)", x.fact(f, 7), OUTSIDE);
            due("fact(" + f + ", -1)", x.fact(f, -1), OUTSIDE);
        }
        x.make(4);
        x.night(18);
        due("so", x.fact(4, 5), 1);
        due("the cost as told", x.fact(4, 4), 4);
        due("read", x.fact(4, 6), 1);
        due("read without being moved", x.fact(1, 6), 1);
        due("not read", x.fact(0, 6), 0);
        due("fact(6, 0)", x.fact(6, 0), UNKNOWN);
        due("fact(-1, 0)", x.fact(-1, 0), UNKNOWN);
        due("unknown ahead of outside", x.fact(6, 9), UNKNOWN);
        for (int v : EXTREMES) {
            due("fact(" + v + ", 0)", x.fact(v, 0), UNKNOWN);
            due("fact(0, " + v + ")", x.fact(0, v), OUTSIDE);
        }
    }

    private static void night() {
        heading = "promise 8";
        SingleCopy x = of(PAPER);
        due("night(3)", x.night(3), 0);
        due("moved up", x.belief(0), 13);
        due("moved down, the asked one being high by then", x.belief(1), 7);
        due("half as strong", x.night(1), NONE);
        due("5 / 2", x.belief(0), 15);
        x.night(1);
        due("5 / 3", x.belief(0), 16);
        due("-5 / 2 cut towards 0", x.night(2) * 100 + x.belief(1), -100 + 5);
        due("the empty sheet", x.night(0), NONE);
        due("nights", x.told(5), 5);
        String before = look(x);
        due("not a fact", x.night(64), UNKNOWN);
        due("below", x.night(-1), UNKNOWN);
        due("not so", x.night(8), NOT);
        due("more than K", x.night(7), NOT);
        due("unknown ahead of not", x.night(64 + 8), UNKNOWN);
        for (int v : EXTREMES) {
            due("night(" + v + ")", x.night(v), v == -100 || v != 0 ? UNKNOWN : 0);
        }
        same("refused nights", x, before);
        due("no opinions", new SingleCopy().night(0), NOT);
        due("no opinions, no facts", new SingleCopy().night(1), UNKNOWN);
        due("no facts", of("r1 1;").night(0), NONE);
        bounds();
        shows();
    }

    private static void bounds() {
        SingleCopy x = of("r3 15,5,1;f0 18 9 0 0;f1 0 9 0 0;f2 10 0 20 0;");
        x.night(7);
        due("20 is the bound", x.belief(0), 20);
        due("0 is the bound", x.belief(1), 0);
        due("asked: just V", x.belief(2), 2);
        x = of("r1 0,4,5;f0 10 1 5 0;f0 11 2 5 0;f0 9 9 0 0;");
        x.night(1);
        due("less than V does not do", x.belief(0), 0);
        x.night(2);
        due("V does", x.belief(0), 2);
        x.night(1);
        x.meet(1, 20);
        x.night(1);
        due("worn though it did not move", x.belief(0), 2);
        due("how often", x.fact(0, 6), 3);
        x = of("r2 10;f0 0 0 10 0;f0 18 0 10 0;");
        x.night(3);
        due("the lesser fact is read first and keeps the other from moving", x.belief(0), 1);
    }

    private static void shows() {
        due("the first of two", of("r2 9,9;f0 10 9 0 0;f1 10 9 0 0;").night(3), 0);
        due("the one that does", of("r2 8,9;f0 10 9 0 0;f1 10 9 0 0;").night(3), 1);
        due("both together, at the second", of("r2 8;f0 10 9 0 0;f0 10 9 0 0;").night(3), 1);
        due("of which he is so already", of("r1 10;f0 10 9 0 0;").night(1), NONE);
        due("no more, then again", of("r2 12;f0 0 9 0 0;f0 18 9 0 0;").night(3), 1);
        SingleCopy x = of("r2 9;f0 10 9 0 0;f0 0 9 0 0;");
        due("he shows it though he is not so in the end", x.night(3), 0);
        due("told(9)", x.told(9), 0);
        due("not so in the end", x.told(7), 0);
    }

    private static void meet() {
        heading = "promise 9";
        SingleCopy x = of(PAPER);
        due("(16 + 0) / 3", x.meet(0, 0), 5);
        due("(10 + 20) / 3", x.meet(0, 20), 10);
        due("(24 + 11) / 3", x.meet(1, 11), 11);
        due("belief(1)", x.belief(1), 11);
        due("nights", x.told(5), 0);
        due("what he showed stays", x.told(9), NONE);
        String before = look(x);
        due("meet(3, 0)", x.meet(3, 0), UNKNOWN);
        due("meet(-1, 0)", x.meet(-1, 0), UNKNOWN);
        due("meet(0, 21)", x.meet(0, 21), OUTSIDE);
        due("meet(0, -1)", x.meet(0, -1), OUTSIDE);
        due("unknown ahead of outside", x.meet(3, 21), UNKNOWN);
        for (int v : EXTREMES) {
            due("meet(" + v + ", 0)", x.meet(v, 0), UNKNOWN);
            due("meet(0, " + v + ")", x.meet(0, v), OUTSIDE);
        }
        same("refused meetings", x, before);
    }

    private static void make() {
        heading = "promise 10";
        SingleCopy x = of(PAPER);
        due("make(3)", x.make(3), 3);
        due("make(4)", x.make(4), 7);
        due("facts that are so", x.told(8), 63);
        due("cost", x.told(6), 7);
        String before = look(x);
        due("again", x.make(3), NOT);
        due("so from the first", x.make(0), NOT);
        due("make(6)", x.make(6), UNKNOWN);
        due("make(-1)", x.make(-1), UNKNOWN);
        for (int v : EXTREMES) {
            due("make(" + v + ")", x.make(v), UNKNOWN);
        }
        same("refused makings", x, before);
        due("printed then", x.night(8), NONE);
    }

    private static void drift() {
        heading = "promise 11";
        SingleCopy x = of(PAPER);
        SingleCopy y = of(PAPER);
        long seed = 4711;
        x.seed(4711);
        due("drift(60)", x.drift(60), 60);
        for (int night = 0; night < 60; night++) {
            int sheet = 0;
            for (int f : new int[] {0, 1, 2, 5}) {
                if (Integer.bitCount(sheet) < 2) {
                    seed = (seed * 1103515245L + 12345L) % 2147483648L;
                    sheet |= seed / 65536 % 3 == 0 ? 1 << f : 0;
                }
            }
            y.night(sheet);
        }
        for (int what : new int[] {5, 6, 7, 8, 9}) {
            due("told(" + what + ") as by nights", x.told(what), y.told(what));
        }
        for (int f = 0; f < 6; f++) {
            due("fact " + f + " read", x.fact(f, 6), y.fact(f, 6));
        }
        for (int o = 0; o < 3; o++) {
            due("belief(" + o + ")", x.belief(o), y.belief(o));
        }
        due("one can be undone", x.told(12), 1);
        String before = look(x);
        due("drift(0)", x.drift(0), OUTSIDE);
        due("drift(61)", x.drift(61), OUTSIDE);
        for (int v : EXTREMES) {
            due("drift(" + v + ")", x.drift(v), OUTSIDE);
        }
        same("refused drifts", x, before);
        due("the seed", x.seed(0), (int) seed);
        due("drift(1)", x.drift(1), 61);
        due("no opinions", new SingleCopy().drift(1), NOT);
        due("outside ahead of not", new SingleCopy().drift(0), OUTSIDE);
    }

    private static void undo() {
        heading = "promise 12";
        SingleCopy x = of(PAPER);
        due("none", x.undo(), NOT);
        String[] looks = new String[4];
        x.seed(9);
        looks[0] = mind(x);
        x.night(3);
        looks[1] = mind(x);
        x.meet(0, 20);
        looks[2] = mind(x);
        x.make(3);
        looks[3] = mind(x);
        x.drift(7);
        int seed = x.seed(9);
        for (int i = 3; i >= 0; i--) {
            due("undo() " + i, x.undo(), i);
            due("what was undone, " + i, mind(x), looks[i]);
        }
        due("no more", x.undo(), NOT);
        x.drift(7);
        due("the seed as it was", x.seed(3), seed);
        x.undo();
        due("the seed stays", x.seed(9), 3);
        for (int i = 0; i < 25; i++) {
            x.meet(0, i % 21);
            due("so many can be undone", x.told(12), Math.min(20, i + 1));
        }
        int[] beliefs = new int[26];
        beliefs[0] = 8;
        for (int i = 0; i < 25; i++) {
            beliefs[i + 1] = (2 * beliefs[i] + i % 21) / 3;
        }
        for (int i = 24; i >= 5; i--) {
            due("undo() to " + i, x.undo(), i - 5);
            due("belief", x.belief(0), beliefs[i]);
        }
        due("the oldest are lost", x.undo(), NOT);
        SingleCopy y = of(CHAIN);
        y.make(5);
        y.night(0xc1 & y.told(8));
        y.make(6);
        y.make(7);
        y.night(0xe0);
        String before = look(y);
        y.night(0xe0);
        y.undo();
        same("what was undone, of eight facts", y, before);
        due("refused calls are not kept", x.meet(0, 21) + x.told(12), OUTSIDE);
        x.thought(0, 1);
        x.write(0, 1);
        due("nor what is thought", x.undo(), NOT);
        x.night(0);
        x.undo();
        due("what is thought stays", x.told(10) + x.told(11), 2);
    }

    private static void thinks() {
        heading = "promise 13";
        SingleCopy x = of(PAPER);
        x.night(1);
        String before = look(x);
        due("thinks(1, 0)", x.thinks(1, 0), 15);
        due("thinks(3, 1)", x.thinks(3, 1), 7);
        due("thinks(0, 2)", x.thinks(0, 2), 3);
        due("thinks(5, NONE)", x.thinks(5, NONE), 2);
        due("nothing shown", x.thinks(0, NONE), NONE);
        due("not a fact", x.thinks(64, 0), UNKNOWN);
        due("not an opinion", x.thinks(0, 3), UNKNOWN);
        due("below NONE", x.thinks(0, -2), UNKNOWN);
        due("unknown ahead of not", x.thinks(8, 3), UNKNOWN);
        due("not so", x.thinks(8, 0), NOT);
        due("more than K", x.thinks(7, NONE), NOT);
        for (int v : EXTREMES) {
            due("thinks(" + v + ", 0)", x.thinks(v, 0), UNKNOWN);
            due("thinks(0, " + v + ")", x.thinks(0, v), UNKNOWN);
        }
        same("trying", x, before);
        due("no opinions", new SingleCopy().thinks(0, NONE), NOT);
        due("no opinions, told one", new SingleCopy().thinks(0, 0), UNKNOWN);
    }

    private static void soonestIs(SingleCopy x, int all, int none, int... sheets) {
        String call = "soonest(" + all + ", " + none + ", ";
        due(call + "NONE)", x.soonest(all, none, NONE), sheets.length);
        for (int i = 0; i < sheets.length; i++) {
            due(call + i + ")", x.soonest(all, none, i), sheets[i]);
        }
        due(call + sheets.length + ")", x.soonest(all, none, sheets.length), NONE);
        due(call + "-2)", x.soonest(all, none, -2), NONE);
    }

    private static void soonest() {
        heading = "promise 14";
        SingleCopy x = of(PAPER);
        String before = look(x);
        soonestIs(x, 0, 0);
        soonestIs(x, 2, 1);
        soonestIs(x, 1, 0, 1);
        soonestIs(x, 0, 2, 3);
        soonestIs(x, 5, 0, 5);
        due("none", x.soonest(4, 1, NONE), NONE);
        due("none, told a night", x.soonest(4, 1, 0), NONE);
        due("told and not to be", x.soonest(1, 1, NONE), NONE);
        due("not an opinion", x.soonest(8, 0, NONE), UNKNOWN);
        due("not an opinion among the others", x.soonest(0, 8, NONE), UNKNOWN);
        due("unknown ahead of all", x.soonest(-1, 0, -2), UNKNOWN);
        for (int v : EXTREMES) {
            due("soonest(" + v + ", 0, 0)", x.soonest(v, 0, 0), UNKNOWN);
            due("soonest(0, " + v + ", 0)", x.soonest(0, v, 0), UNKNOWN);
            due("soonest(1, 0, " + v + ")", x.soonest(1, 0, v), NONE);
        }
        same("trying", x, before);
        x = of(CHAIN);
        soonestIs(x, 7, 0, 7);
        soonestIs(x, 15, 0, 1, 14);
        due("three nights are too many", of("r1 0,0,0;f0 18 9 0 0;f1 18 9 0 0;f2 18 9 0 0;h9;").soonest(7, 0, NONE), NONE);
        soonestIs(of("r1 0,0,0;f0 18 9 0 0;f1 18 9 0 0;f2 18 9 0 0;h9;"), 6, 1, 2, 4);
        soonestIs(of("r1 0;f0 14 9 0 0;h7;"), 1, 0, 1, 1);
        due("a worn fact does not do it", of("r1 0;f0 14 9 0 0;h8;").soonest(1, 0, NONE), NONE);
        soonestIs(of("r1 0;f0 14 9 0 0;f0 14 9 0 0;h8;"), 1, 0, 1, 2);
        soonestIs(new SingleCopy(), 0, 0);
        due("no opinions", new SingleCopy().soonest(1, 0, NONE), UNKNOWN);
    }

    private static void cannot() {
        heading = "promise 15";
        due("no opinions", new SingleCopy().cannot(), 0);
        due("all by two nights", of(CHAIN).cannot(), 0);
        due("one by none", of("r1 9,10,0,0;f3 18 9 0 0;h9;").cannot(), 4);
        due("facts that are not so", of("r1 0;f0 18 9 0 1;h9;").cannot(), 1);
        due("just two nights", of("r1 0,0;f0 14 9 0 0;f1 13 9 0 0;h7;").cannot(), 2);
        due("each by itself", of("r1 0,0,0;f0 18 9 0 0;f1 18 9 0 0;f2 18 9 0 0;h9;").cannot(), 0);
        due("so now", of("r1 20;").cannot(), 0);
        due("no facts", of("r1 1,1,1,1,1;").cannot(), 31);
        SingleCopy x = of("r1 0;f0 18 9 0 1;h9;");
        String before = look(x);
        x.cannot();
        same("trying", x, before);
        x.make(0);
        due("made so", x.cannot(), 0);
        x = of("r1 0,0,0;f0 18 9 0 0;f1 18 0 9 0;f2 18 1 9 0;h9;");
        due("the third is too far", x.cannot(), 4);
    }

    private static void least() {
        heading = "promise 16";
        SingleCopy x = of(CHAIN);
        String before = look(x);
        due("least(3, 0)", x.least(3, 0), 9);
        due("least(3, 1)", x.least(3, 1), 64);
        due("so already", x.least(4, 0) * 100 + x.least(4, 1), 0);
        due("by facts that are so", x.least(0, 0) * 100 + x.least(0, 1), 0);
        due("not an opinion", x.least(5, 0), UNKNOWN);
        due("below", x.least(-1, 0), UNKNOWN);
        due("least(0, 2)", x.least(0, 2), OUTSIDE);
        due("least(0, -1)", x.least(0, -1), OUTSIDE);
        due("unknown ahead of outside", x.least(5, 2), UNKNOWN);
        for (int v : EXTREMES) {
            due("least(" + v + ", 0)", x.least(v, 0), UNKNOWN);
            due("least(0, " + v + ")", x.least(0, v), OUTSIDE);
        }
        same("trying", x, before);
        x = of("r2 0;f0 18 9 0 5;f0 14 9 0 2;f0 13 9 0 2;f0 13 9 0 3;h9;");
        due("two cheap ones", x.least(0, 0), 4);
        due("their set", x.least(0, 1), 6);
        x = of("r2 0;f0 18 9 0 4;f0 14 9 0 2;f0 13 9 0 2;h9;");
        due("of like ones the least set", x.least(0, 1), 1);
        x = of("r2 0;f0 14 9 0 2;f0 13 9 0 2;f0 18 9 0 4;h9;");
        due("of like ones the least set, of two", x.least(0, 1), 3);
        due("at a like cost", x.least(0, 0), 4);
        x = of("r1 0;f0 14 9 0 2;f0 13 9 0 2;h9;");
        due("a sheet of one does not do", x.least(0, 0), NONE);
        due("no set", x.least(0, 1), NONE);
        x = of("r2 0;f0 14 9 0 2;f0 13 9 0 0;h9;");
        due("with one that is so", x.least(0, 0) * 100 + x.least(0, 1), 201);
        x = of("r2 0;f0 14 9 0 2;f0 18 9 0 2;f0 13 9 0 0;h9;");
        due("the least set may need the greater sheet", x.least(0, 0) * 100 + x.least(0, 1), 201);
        x = of("r2 0;f0 14 9 0 5;f0 18 9 0 1;f0 13 9 0 0;h9;");
        due("the cost counts ahead of the set", x.least(0, 0) * 100 + x.least(0, 1), 102);
        x = of("r1 10;f0 0 9 0 0;");
        due("so already, by the empty sheet alone", x.least(0, 0) * 100 + x.least(0, 1), 0);
        due("no facts", of("r1 0;").least(0, 0), NONE);
        due("no opinions", new SingleCopy().least(0, 0), UNKNOWN);
    }

    private static void rivals() {
        heading = "promise 17";
        SingleCopy x = of(PAPER);
        String before = look(x);
        due("rivals(0, 1)", x.rivals(0, 1), 13);
        due("rivals(1, 3)", x.rivals(1, 3), 20);
        due("rivals(2, 4)", x.rivals(2, 4), 12);
        due("not an opinion", x.rivals(3, 1), UNKNOWN);
        due("below", x.rivals(-1, 1), UNKNOWN);
        due("rivals(0, 0)", x.rivals(0, 0), OUTSIDE);
        due("rivals(0, 5)", x.rivals(0, 5), OUTSIDE);
        due("unknown ahead of outside", x.rivals(3, 0), UNKNOWN);
        for (int v : EXTREMES) {
            due("rivals(" + v + ", 1)", x.rivals(v, 1), UNKNOWN);
            due("rivals(0, " + v + ")", x.rivals(0, v), OUTSIDE);
        }
        same("trying", x, before);
        x = of("r1 10;f0 14 9 0 0;f0 12 9 0 0;f0 5 9 0 0;f0 7 9 0 0;");
        due("one turn", x.rivals(0, 1), 15);
        due("two turns", x.rivals(0, 2), 11);
        due("three turns", x.rivals(0, 3), 14);
        due("four turns", x.rivals(0, 4), 12);
        x = of("r1 10;f0 14 9 0 0;f0 12 9 0 1;");
        due("who has none prints none", x.rivals(0, 4), 15);
        due("who has one prints it", of("r1 10;f0 4 9 0 0;").rivals(0, 1), 5);
        due("no facts", of("r1 10;").rivals(0, 4), 10);
        x = of("r1 10;f0 17 9 0 0;");
        x.night(1);
        x.meet(0, 3);
        due("a worn fact", x.rivals(0, 1), 17);
        due("each once", x.rivals(0, 2), 17);
    }

    private static void shun() {
        heading = "promise 18";
        SingleCopy x = of(PAPER);
        String before = look(x);
        due("shun(1, 0)", x.shun(1, 0), 0);
        due("shun(1, 1)", x.shun(1, 1), 8);
        due("not convinced", x.shun(0, 0), NONE);
        due("not convinced, the greatest", x.shun(0, 1), NONE);
        due("not an opinion", x.shun(3, 0), UNKNOWN);
        due("shun(0, 2)", x.shun(0, 2), OUTSIDE);
        due("shun(0, -1)", x.shun(0, -1), OUTSIDE);
        due("unknown ahead of outside", x.shun(-1, 2), UNKNOWN);
        for (int v : EXTREMES) {
            due("shun(" + v + ", 0)", x.shun(v, 0), UNKNOWN);
            due("shun(1, " + v + ")", x.shun(1, v), OUTSIDE);
        }
        same("trying", x, before);
        x = of("r1 20,11,10;h10;");
        due("nobody does", x.shun(0, 0), NONE);
        due("nobody does, the greatest", x.shun(0, 1), NONE);
        due("a few do", x.shun(1, 1), 7);
        due("just H", x.shun(2, 1), 9);
        due("by 20 too", of("r1 20;h20;").shun(0, 1), 19);
        due("just 0", of("r1 2;h2;").shun(0, 1), 1);
        due("H 1", of("r1 1;h1;").shun(0, 0) * 100 + of("r1 1;h1;").shun(0, 1), 0);
    }

    private static void holds() {
        heading = "promise 19";
        SingleCopy x = new SingleCopy();
        due("holds(0, 100)", x.holds(0, 100), 1000000000);
        due("holds(1, 100)", x.holds(1, 100), 0);
        due("holds(60, 0)", x.holds(60, 0), 1000000000);
        due("holds(1, 1)", x.holds(1, 1), 990000000);
        due("cut each day", x.holds(10, 5), 598736937);
        due("holds(60, 1)", x.holds(60, 1), cutDaily(60, 1));
        due("holds(60, 33)", x.holds(60, 33), cutDaily(60, 33));
        due("holds(7, 99)", x.holds(7, 99), 0);
        due("holds(-1, 0)", x.holds(-1, 0), OUTSIDE);
        due("holds(61, 0)", x.holds(61, 0), OUTSIDE);
        due("holds(0, -1)", x.holds(0, -1), OUTSIDE);
        due("holds(0, 101)", x.holds(0, 101), OUTSIDE);
        for (int v : EXTREMES) {
            due("holds(" + v + ", 0)", x.holds(v, 0), OUTSIDE);
            due("holds(0, " + v + ")", x.holds(0, v), OUTSIDE);
        }
    }

    private static int cutDaily(int days, int q) {
        java.math.BigInteger odds = java.math.BigInteger.valueOf(1000000000);
        for (int i = 0; i < days; i++) {
            odds = odds.multiply(java.math.BigInteger.valueOf(100 - q)).divide(java.math.BigInteger.valueOf(100));
        }
        return odds.intValue();
    }

    private static void worn() {
        heading = "promise 20";
        due("no facts", new SingleCopy().worn(), 0);
        SingleCopy x = of("r3 10;f0 9 9 0 0;f0 10 9 0 0;f0 7 9 0 0;f0 9 9 0 3;f0 18 0 20 0;");
        due("what never moved", x.worn(), 9);
        x.night(22);
        String before = look(x);
        due("1 / 2", x.worn(), 11);
        same("trying", x, before);
        x.night(20);
        due("-2 / 3", x.worn(), 15);
        for (int i = 3; i <= 8; i++) {
            x.night(16);
        }
        due("9 / 9", x.worn(), 15);
        x.night(16);
        due("9 / 10", x.worn(), 31);
    }

    private static void thought() {
        heading = "promise 21";
        SingleCopy x = of(PAPER);
        due("thought(3, 0)", x.thought(3, 0), UNKNOWN);
        due("thought(-1, 0)", x.thought(-1, 0), UNKNOWN);
        due("thought(0, 21)", x.thought(0, 21), OUTSIDE);
        due("thought(0, -1)", x.thought(0, -1), OUTSIDE);
        due("unknown ahead of outside", x.thought(3, 21), UNKNOWN);
        for (int v : EXTREMES) {
            due("thought(" + v + ", 0)", x.thought(v, 0), UNKNOWN);
            due("thought(0, " + v + ")", x.thought(0, v), OUTSIDE);
        }
        for (int i = 1; i <= 6; i++) {
            due("thought", x.thought(i % 3, i == 1 ? 0 : 20), i);
        }
        due("full", x.thought(0, 0), FULL);
        due("unknown ahead of full", x.thought(3, 0), UNKNOWN);
        due("outside ahead of full", x.thought(0, 21), OUTSIDE);
        due("how many", x.told(10), 6);
        due("no opinions", new SingleCopy().thought(0, 0), UNKNOWN);
    }

    private static void leftOutIs(SingleCopy x, int sure, int out, int... sheets) {
        due("leftOut(NONE)", x.leftOut(NONE), sheets.length);
        for (int i = 0; i < sheets.length; i++) {
            due("leftOut(" + i + ")", x.leftOut(i), sheets[i]);
        }
        due("not so many", x.leftOut(sheets.length), NONE);
        due("SURE", x.leftOut(-2), sure);
        due("OUT", x.leftOut(-3), out);
        due("leftOut(-4)", x.leftOut(-4), NONE);
        for (int v : EXTREMES) {
            due("leftOut(" + v + ")", x.leftOut(v), NONE);
        }
    }

    private static void leftOut() {
        heading = "promise 22";
        leftOutIs(new SingleCopy(), 0, 0);
        leftOutIs(of("r1 5;"), 0, 0, 0);
        SingleCopy x = of(PAPER);
        String before = look(x);
        leftOutIs(x, 0, 0, 0, 1, 2, 3, 4, 5, 6, 32, 33, 34, 36);
        same("trying", x, before);
        x.thought(0, 13);
        leftOutIs(x, 1, 0, 1, 3, 5, 33);
        x.thought(1, 12);
        leftOutIs(x, 1, 34, 1, 5);
        x.thought(2, 12);
        leftOutIs(x, 5, 34, 5);
        x.thought(2, 11);
        leftOutIs(x, 0, 39);
        x.tear();
        x.thought(0, 8);
        leftOutIs(x, 0, 1, 0, 2, 4, 6, 32, 34, 36);
    }

    private static void strengths() {
        heading = "promise 23";
        SingleCopy x = of(PAPER);
        due("nothing thought", x.strengths(0, 1), (1 << 19) - 1);
        x.thought(0, 13);
        String before = look(x);
        due("one strength", x.strengths(0, 1), 1 << 14);
        due("another fact's", x.strengths(1, 1), (1 << 19) - 1);
        due("another fact's, in the sheet", x.strengths(1, 3), (1 << 19) - 1);
        due("not in the sheet", x.strengths(0, 2), 0);
        due("a fact that is not so", x.strengths(3, 1), (1 << 19) - 1);
        due("not a fact", x.strengths(6, 1), UNKNOWN);
        due("below", x.strengths(-1, 1), UNKNOWN);
        due("not a fact in the sheet", x.strengths(0, 64), UNKNOWN);
        due("unknown ahead of not", x.strengths(6, 8), UNKNOWN);
        due("not so", x.strengths(0, 8), NOT);
        due("more than K", x.strengths(0, 7), NOT);
        for (int v : EXTREMES) {
            due("strengths(" + v + ", 0)", x.strengths(v, 0), UNKNOWN);
            due("strengths(0, " + v + ")", x.strengths(0, v), UNKNOWN);
        }
        same("trying", x, before);
        due("the strength itself stays", x.night(1) * 100 + x.belief(0), 13);
        x.tear();
        x.thought(0, 15);
        due("a worn fact: 4 / 2 and 5 / 2", x.strengths(0, 1), 3 << 13);
        x.tear();
        x.thought(0, 13);
        due("a worn fact: -1 / 2, 0 and 1 / 2", x.strengths(0, 1), 7 << 8);
        x = of("r1 19;f0 9 9 0 0;");
        x.thought(0, 20);
        due("at the bound", x.strengths(0, 1), 0x3fe << 9);
        x = of("r1 10,5;f0 9 1 6 0;");
        x.thought(0, 10);
        due("he is not moved", x.strengths(0, 1), (1 << 19) - 1);
        due("no facts", new SingleCopy().strengths(0, 0), UNKNOWN);
    }

    private static void write() {
        heading = "promise 24";
        SingleCopy x = of(PAPER);
        due("write(3, 0)", x.write(3, 0), UNKNOWN);
        due("write(-1, 0)", x.write(-1, 0), UNKNOWN);
        due("write(0, 21)", x.write(0, 21), OUTSIDE);
        due("write(0, -1)", x.write(0, -1), OUTSIDE);
        due("unknown ahead of outside", x.write(3, 21), UNKNOWN);
        for (int v : EXTREMES) {
            due("write(" + v + ", 0)", x.write(v, 0), UNKNOWN);
            due("write(0, " + v + ")", x.write(0, v), OUTSIDE);
        }
        for (int i = 1; i <= 15; i++) {
            due("write", x.write(i % 3, i == 1 ? 0 : 20), i);
        }
        due("full", x.write(0, 0), FULL);
        due("unknown ahead of full", x.write(3, 0), UNKNOWN);
        due("outside ahead of full", x.write(0, 21), OUTSIDE);
        due("how many", x.told(11), 15);
        due("nothing thought by it", x.told(10), 0);
        due("no opinions", new SingleCopy().write(0, 0), UNKNOWN);
    }

    private static void tear() {
        heading = "promise 25";
        SingleCopy x = of(PAPER);
        due("nothing", x.tear(), 0);
        x.thought(0, 1);
        x.thought(0, 2);
        x.write(0, 1);
        due("both", x.tear(), 3);
        due("nothing thought", x.told(10), 0);
        due("no book", x.told(11), 0);
        due("again", x.tear(), 0);
        due("anew", x.thought(0, 1) * 10 + x.write(0, 1), 11);
    }

    private static void judge() {
        heading = "promise 26";
        SingleCopy x = of(PAPER);
        due("an empty book", x.judge(), NONE);
        x.write(2, 3);
        x.write(0, 8);
        due("all so", x.judge(), NONE);
        x.write(1, 12);
        x.write(0, 9);
        x.write(0, 10);
        due("the first wrong entry", x.judge(), 3);
        x.night(2);
        x.meet(1, 0);
        due("what is so now counts", x.judge(), 2);
        due("no opinions", new SingleCopy().judge(), NONE);
    }

    private static void seed() {
        heading = "promise 27";
        SingleCopy x = new SingleCopy();
        due("at first", x.seed(2147483647), 0);
        due("the greatest", x.seed(0), 2147483647);
        due("below", x.seed(-1), OUTSIDE);
        due("far below", x.seed(Integer.MIN_VALUE), OUTSIDE);
        due("refused", x.seed(5), 0);
        read(x, "r1 1;f0 9 9 0 0;");
        x.drift(1);
        due("one draw", x.seed(0), (int) ((5 * 1103515245L + 12345L) % 2147483648L));
    }

    private static void keep() {
        heading = "promise 28";
        SingleCopy x = of(PAPER);
        x.night(1);
        due("not an image", x.keep(2), UNKNOWN);
        due("below", x.keep(-1), UNKNOWN);
        for (int v : EXTREMES) {
            due("keep(" + v + ")", x.keep(v), UNKNOWN);
        }
        due("one can still be undone", x.told(12), 1);
        due("keep(0)", x.keep(0), 1);
        due("nothing can be undone then", x.undo(), NOT);
        due("what is so stays", x.belief(0), 13);
        x.night(1);
        due("the other image", x.keep(1), 1);
        x.night(1);
        due("kept anew", x.keep(0), 1);
        x.meet(0, 0);
        x.goBack(0);
        due("the newer one", x.belief(0), 16);
        x.goBack(1);
        due("the other one", x.belief(0), 15);
        due("no opinions", new SingleCopy().keep(0), 1);
    }

    private static void goBack() {
        heading = "promise 29";
        SingleCopy x = of(PAPER);
        due("not kept", x.goBack(0), NOT);
        due("not an image", x.goBack(2), UNKNOWN);
        due("below", x.goBack(-1), UNKNOWN);
        for (int v : EXTREMES) {
            due("goBack(" + v + ")", x.goBack(v), UNKNOWN);
        }
        x.seed(12);
        x.night(1);
        x.make(3);
        x.meet(0, 3);
        x.keep(1);
        String kept = look(x);
        x.drift(9);
        x.make(4);
        x.meet(1, 3);
        due("the other was not kept", x.goBack(0), NOT);
        due("goBack(1)", x.goBack(1), 1);
        same("what came behind the image", x, kept);
        due("nothing can be undone then", x.undo(), NOT);
        x.night(0);
        due("again", x.goBack(1), 1);
        same("what came behind the image, again", x, kept);
        x.thought(0, 1);
        x.write(0, 1);
        x.feed(32);
        x.goBack(1);
        due("what is thought and the book stay", x.told(10) + x.told(11) + x.told(4), 3);
        x = new SingleCopy();
        due("a new object's image", x.goBack(0), NOT);
        due("a new object's other image", x.goBack(1), NOT);
        x.keep(0);
        due("no opinions", x.goBack(0), 1);
        due("none then, too", Arrays.asList(x.told(1), x.told(9)).hashCode(), Arrays.asList(0, NONE).hashCode());
    }
}
