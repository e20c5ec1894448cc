import java.io.IOException;
import java.math.BigInteger;
import java.util.function.ToIntFunction;

/** What the document says ahead of the promises: for each sentence that names a boundary case a test of its own. */
public final class TermsBounds extends Sentences {
    private static final String FACT = "f0 9 9 0 0;";
    private static final String EIGHT = "r3 10;" + FACT.repeat(8);

    public static void main(String[] args) throws IOException {
        open(args);
        under("What it is");
        callsOfAnObject();
        under("The public face");
        constants();
        under("Terms");
        terms();
        city();
        faults();
        belief();
        night();
        doings();
        tried();
        soonestAndCannot();
        leftOutAndStrengths();
        make();
        rivals();
        shunHoldsWorn();
        book();
        draws();
        undone();
        allNamed("Terms");
        end("what is said ahead of the promises holds");
    }

    // ---- ahead of all

    private static void callsOfAnObject() {
        says("An object is used for at most 512 calls after it has been made");
        SingleCopy x = new SingleCopy();
        for (int call = 1; call <= 512; call++) {
            due("feed, as call " + call, x.feed(32), call <= 240 ? call : FULL);
        }
        x = of("r1 10;");
        int belief = 10;
        for (int call = 8; call <= 512; call++) {
            belief = (2 * belief + call % 21) / 3;
            due("meet, as call " + call, x.meet(0, call % 21), belief);
        }
        x = of("r1 10;");
        for (int call = 8; call <= 512; call++) {
            due("drift(60), as call " + call, x.drift(60), 60 * (call - 7));
        }
        x = of("r1 20;f0 0 9 0 0;");
        for (int call = 19; call < 512; call++) {
            x.night(1);
        }
        due("how often it was read, as the last call", x.fact(0, 6), 493);
    }

    private static void constants() {
        says("public static final int NONE = -1, UNKNOWN = -1000000001, OUTSIDE = -1000000002, NOT = -1000000003, FULL = -1000000004;");
        due("NONE", SingleCopy.NONE, -1);
        due("UNKNOWN", SingleCopy.UNKNOWN, -1000000001);
        due("OUTSIDE", SingleCopy.OUTSIDE, -1000000002);
        due("NOT", SingleCopy.NOT, -1000000003);
        due("FULL", SingleCopy.FULL, -1000000004);
    }

    // ---- the terms

    private static void terms() {
        namesNone("Words in capitals are told where they come first.");
        allNumbersAreCut();
        numbersFrom0();
        sets();
        says("NONE is -1.");
        due("fault() of a new object", new SingleCopy().fault(), -1);
        due("told(9) of a new object", new SingleCopy().told(9), -1);
        refusalsInOrder();
        refusalsAreFarBelow();
        refusedChangesNothing();
        says("BILLION is 1000000000.");
        due("holds(0, 0)", new SingleCopy().holds(0, 0), 1000000000);
    }

    private static void allNumbersAreCut() {
        says("All numbers are whole; / cuts towards 0.");
        SingleCopy x = of("r2 20,0;f0 4 9 0 0;f1 14 9 0 0;");
        int[] down = {15, 13, 12, 11, 10, 10, 10};
        int[] up = {5, 7, 8, 9, 10, 10, 10};
        for (int i = 0; i < down.length; i++) {
            x.night(3);
            due("-5 / " + (i + 1), x.belief(0), down[i]);
            due("5 / " + (i + 1), x.belief(1), up[i]);
        }
    }

    private static void numbersFrom0() {
        says("What has a number has it from 0 on, as it comes.");
        SingleCopy x = of("r1 3,4,5;f0 1 9 0 0;f1 2 9 0 0;");
        int[] beliefs = {UNKNOWN, 3, 4, 5, UNKNOWN};
        int[] facts = {UNKNOWN, 1, 2, UNKNOWN};
        for (int i = 0; i < beliefs.length; i++) {
            due("belief(" + (i - 1) + ")", x.belief(i - 1), beliefs[i]);
        }
        for (int i = 0; i < facts.length; i++) {
            due("fact(" + (i - 1) + ", 1)", x.fact(i - 1, 1), facts[i]);
        }
    }

    private static void sets() {
        says("A SET is a whole number, bit k for k.");
        SingleCopy x = of("r3 20,20,20,20,20;" + FACT.repeat(8));
        due("all opinions", x.told(7), 31);
        due("all facts", x.told(8), 255);
        due("the last fact alone", x.night(128) + x.fact(7, 6), 0);
        x = of("r1 0,20;f0 9 9 0 1;" + FACT);
        due("the second opinion", x.told(7), 2);
        due("the second fact", x.told(8), 2);
        x = of("r1 0;");
        due("no opinion", x.told(7), 0);
        due("no fact", x.told(8), 0);
    }

    /** Calls that are to be refused for more than one thing. */
    private static void refusalsInOrder() {
        says("REFUSALS, of several the first in this order: UNKNOWN (a FACT, OPINION, IMAGE that there is not; bits of such), "
            + "OUTSIDE (another number out of its bounds), NOT (not now, as told), FULL.");
        SingleCopy x = busy();
        due("fact(6, 7)", x.fact(6, 7), UNKNOWN);
        due("meet(3, 21)", x.meet(3, 21), UNKNOWN);
        due("least(3, 2)", x.least(3, 2), UNKNOWN);
        due("rivals(3, 0)", x.rivals(3, 0), UNKNOWN);
        due("shun(-1, -1)", x.shun(-1, -1), UNKNOWN);
        due("thought(3, 21)", x.thought(3, 21), UNKNOWN);
        due("write(3, -1)", x.write(3, -1), UNKNOWN);
        x = of(PAPER);
        due("night: a fact that there is not, one not so", x.night(64 + 8), UNKNOWN);
        due("night: a fact that there is not, more than K", x.night(64 + 7), UNKNOWN);
        due("thinks: no opinion, a fact not so", x.thinks(8, 3), UNKNOWN);
        due("thinks: no fact, more than K", x.thinks(64 + 7, NONE), UNKNOWN);
        due("strengths: no fact, another one not so", x.strengths(6, 8), UNKNOWN);
        due("strengths: a bit of no fact, more than K", x.strengths(0, 64 + 7), UNKNOWN);
        due("goBack(2), not kept either", x.goBack(2), UNKNOWN);
        due("drift(0) without opinions", new SingleCopy().drift(0), OUTSIDE);
        due("night(1) without opinions", new SingleCopy().night(1), UNKNOWN);
        x = full();
        due("feed(256) when full", x.feed(256), OUTSIDE);
        due("thought(1, 0) when full", x.thought(1, 0), UNKNOWN);
        due("thought(0, 21) when full", x.thought(0, 21), OUTSIDE);
        due("write(1, 0) when full", x.write(1, 0), UNKNOWN);
        due("write(0, 21) when full", x.write(0, 21), OUTSIDE);
    }

    private static void refusalsAreFarBelow() {
        says("They are far below all that is counted: -1000000001 and on.");
        due("UNKNOWN", new SingleCopy().belief(0), -1000000001);
        due("OUTSIDE", new SingleCopy().told(13), -1000000002);
        due("NOT", new SingleCopy().undo(), -1000000003);
        due("FULL", full().feed(0), -1000000004);
    }

    /** Something of all that can be: doings, what is thought, a book, an image, a text begun. */
    private static SingleCopy busy() {
        SingleCopy x = of(PAPER);
        x.seed(77);
        x.night(3);
        x.meet(2, 20);
        x.make(3);
        x.keep(1);
        x.night(9);
        x.meet(0, 5);
        x.make(4);
        x.drift(3);
        x.thought(0, 9);
        x.thought(1, 7);
        x.write(0, x.belief(0));
        x.write(2, 1);
        tell(x, "r1 1;x");
        return x;
    }

    /** All that can be full is so, but for the nights. */
    private static SingleCopy full() {
        SingleCopy x = of("r1 10;" + FACT);
        for (int i = 0; i < 20; i++) {
            x.meet(0, i);
        }
        for (int i = 0; i < 6; i++) {
            x.thought(0, x.belief(0));
        }
        for (int i = 0; i < 15; i++) {
            x.write(0, x.belief(0));
        }
        tell(x, " ".repeat(240));
        return x;
    }

    private static SingleCopy anew() {
        return new SingleCopy();
    }

    private static void refused(String what, int state, int code, ToIntFunction<SingleCopy> call) {
        SingleCopy x = state == 0 ? anew() : state == 1 ? busy() : full();
        SingleCopy y = state == 0 ? anew() : state == 1 ? busy() : full();
        due(what, call.applyAsInt(x), code);
        due("all behind the refused " + what, everything(x), everything(y));
    }

    private static void refusedChangesNothing() {
        says("What is refused changes nothing.");
        for (int n : new int[] {-1, 256, MIN, MAX}) {
            refused("feed", 1, OUTSIDE, x -> x.feed(n));
        }
        refused("feed", 2, FULL, x -> x.feed(32));
        refused("told", 1, OUTSIDE, x -> x.told(13));
        refused("belief", 1, UNKNOWN, x -> x.belief(3));
        refused("fact", 1, UNKNOWN, x -> x.fact(6, 0));
        refused("fact", 1, OUTSIDE, x -> x.fact(0, 7));
        for (int n : new int[] {-1, 64, MIN, MAX}) {
            refused("night", 1, UNKNOWN, x -> x.night(n));
            refused("thinks", 1, UNKNOWN, x -> x.thinks(n, 0));
            refused("strengths", 1, UNKNOWN, x -> x.strengths(0, n));
        }
        refused("night", 0, NOT, x -> x.night(0));
        refused("night", 1, NOT, x -> x.night(7));
        refused("meet", 1, UNKNOWN, x -> x.meet(3, 0));
        refused("meet", 1, OUTSIDE, x -> x.meet(0, 21));
        refused("meet", 1, OUTSIDE, x -> x.meet(0, -1));
        refused("make", 1, UNKNOWN, x -> x.make(6));
        refused("make", 1, NOT, x -> x.make(3));
        refused("drift", 1, OUTSIDE, x -> x.drift(0));
        refused("drift", 1, OUTSIDE, x -> x.drift(61));
        refused("drift", 0, NOT, x -> x.drift(1));
        refused("undo", 0, NOT, x -> x.undo());
        refused("thinks", 1, UNKNOWN, x -> x.thinks(0, -2));
        refused("thinks", 1, NOT, x -> x.thinks(7, 0));
        refused("soonest", 1, UNKNOWN, x -> x.soonest(8, 0, NONE));
        refused("soonest", 1, UNKNOWN, x -> x.soonest(0, -1, NONE));
        refused("least", 1, UNKNOWN, x -> x.least(3, 0));
        refused("least", 1, OUTSIDE, x -> x.least(0, 2));
        refused("rivals", 1, UNKNOWN, x -> x.rivals(3, 1));
        refused("rivals", 1, OUTSIDE, x -> x.rivals(0, 5));
        refused("shun", 1, UNKNOWN, x -> x.shun(3, 0));
        refused("shun", 1, OUTSIDE, x -> x.shun(0, 2));
        refused("holds", 1, OUTSIDE, x -> x.holds(61, 0));
        refused("thought", 1, UNKNOWN, x -> x.thought(3, 0));
        refused("thought", 1, OUTSIDE, x -> x.thought(0, 21));
        refused("thought", 2, FULL, x -> x.thought(0, 0));
        refused("strengths", 1, NOT, x -> x.strengths(0, 7));
        refused("write", 1, UNKNOWN, x -> x.write(3, 0));
        refused("write", 1, OUTSIDE, x -> x.write(0, -1));
        refused("write", 2, FULL, x -> x.write(0, 0));
        refused("seed", 1, OUTSIDE, x -> x.seed(-1));
        refused("keep", 1, UNKNOWN, x -> x.keep(2));
        refused("keep", 1, UNKNOWN, x -> x.keep(-1));
        refused("goBack", 1, UNKNOWN, x -> x.goBack(2));
        refused("goBack", 1, NOT, x -> x.goBack(0));
    }

    // ---- 1: the city

    /** The text is read: without a fault (number 0, place NONE), or with this one there. */
    private static SingleCopy reads(String text, int number, int place) {
        SingleCopy x = new SingleCopy();
        int got = read(x, text);
        due("city of '" + text + "'", Math.min(got, -10), -10 - number);
        due("the fault's place in '" + text + "'", x.fault(), place);
        return x;
    }

    private static SingleCopy reads(String text) {
        return reads(text, 0, NONE);
    }

    /** The number that stands between these is held against its bounds, from 0 to the greatest of four figures and on. */
    private static void bounds(String before, int least, int greatest, String behind) {
        for (int n = 0; n <= 999; n++) {
            boolean fine = n >= least && n <= greatest;
            reads(before + n + behind, fine ? 0 : 2, fine ? NONE : before.length());
        }
        for (String far : new String[] {"1000", "0000", "000" + greatest, "2147483648", "4294967296", "42949672970",
            "18446744073709551616", "99999999999999999999"}) {
            reads(before + far + behind, 2, before.length());
        }
    }

    private static void city() {
        textOf240();
        sheetSizes();
        opinionsAndBeliefs();
        firstAndOnce();
        factsAtMost();
        moves();
        asked();
        costs();
        convincedFrom();
        figures();
        says("a word is one letter;");
        reads("rr1 1;", 1, 1);
        reads("r1 1;fh5;", 1, 6);
        reads("r1 1;hh5;", 1, 6);
        reads("r1 1;f" + FACT, 1, 6);
        blanks();
        sideBySide();
    }

    private static void textOf240() {
        says("1 THE CITY is told in a text (240 letters at most): clauses:");
        SingleCopy x = new SingleCopy();
        tell(x, "r1 10;" + " ".repeat(229) + "h019;");
        due("letters", x.told(4), 240);
        due("one more", x.feed(';'), FULL);
        due("the text as it was", x.city(), 0);
        due("its last clause", x.told(3), 19);
        reads("r1 10;" + " ".repeat(230) + "h019", 1, 240);
        reads("r1 10;" + " ".repeat(230) + "0019", 1, 236);
        reads("r1 10;" + " ".repeat(229) + "h0019", 2, 236);
        reads("r1 10;" + " ".repeat(233) + "x", 1, 239);
        reads("r1 10;" + " ".repeat(233) + "h", 1, 240);
        reads("r1 10" + " ".repeat(235), 1, 240);
    }

    private static void sheetSizes() {
        says("'r' K B {',' B} ';' (a SHEET has K FACTS at most, 1 .. 3;");
        bounds("r", 1, 3, " 10;");
        for (int k = 1; k <= 3; k++) {
            SingleCopy x = reads("r" + k + " 10;" + FACT.repeat(4));
            due("K", x.told(0), k);
            due("K facts", x.night((1 << k) - 1), NONE);
            due("one more", x.night((2 << k) - 1), NOT);
        }
        reads("r", 1, 1);
        reads("r1", 1, 2);
        reads("r1 1", 1, 4);
        reads("r1 1,", 1, 5);
        reads("r1 1,;", 1, 5);
        reads("r1,1;", 1, 2);
        reads("r,1;", 1, 1);
        reads("r1 1;;", 1, 5);
    }

    private static void opinionsAndBeliefs() {
        says("1 to 5 OPINIONS with BELIEF B 0 .. 20 each;");
        reads("r1;", 1, 2);
        reads("r1 ;", 1, 3);
        StringBuilder ahead = new StringBuilder("r1 ");
        for (int count = 1; count <= 5; count++) {
            bounds(ahead.toString(), 0, 20, ";");
            SingleCopy x = reads(ahead + "20;");
            due("opinions", x.told(1), count);
            due("the last one", x.belief(count - 1), 20);
            due("one more", x.belief(count), UNKNOWN);
            due("belief 0", reads(ahead + "0;").belief(count - 1), 0);
            ahead.append(count).append(',');
        }
        reads(ahead + "6;", 1, ahead.length() - 1);
    }

    private static void firstAndOnce() {
        says("first, once)");
        reads(FACT + "r1 1;", 1, 0);
        reads("h5;r1 1;", 1, 0);
        reads("r1 1;r1 1;", 3, 5);
        reads("r1 1;" + FACT + "h5; r1 1;", 3, 5 + FACT.length() + 4);
        reads("r1 1;");
    }

    private static void factsAtMost() {
        says("'f' O D P V C ';' (8 FACTS at most:");
        for (int count = 0; count <= 8; count++) {
            SingleCopy x = reads("r1 10;" + FACT.repeat(count));
            due("facts", x.told(2), count);
            due("one more", x.fact(count, 0), UNKNOWN);
        }
        reads(EIGHT + "f", 3, EIGHT.length());
        reads(EIGHT + " " + FACT, 3, EIGHT.length() + 1);
        due("8 facts, the rest still told", reads(EIGHT + "h3;").told(3), 3);
        String fact = "f0 9 9 0 0";
        for (int i = 1; i < fact.length(); i++) {
            boolean begun = fact.charAt(i) != ' ';
            reads("r1 1;" + fact.substring(0, i), 1, 5 + i);
            reads("r1 1;" + fact.substring(0, i) + ";", 1, 5 + i);
            reads("r1 1;" + fact.substring(0, i) + (begun ? "," : " ,"), 1, 5 + i + (begun ? 0 : 1));
        }
        reads("r1 1;f0 9 9 0 0 0;", 1, 16);
    }

    private static void moves() {
        says("moves OPINION O by D, 0 .. 18, less 9;");
        bounds("r1 10;f0 ", 0, 18, " 9 0 0;");
        int[] behind = {1, 2, 3, 4, 5, 6, 7, 8, 9, 10, 11, 12, 13, 14, 15, 16, 17, 18, 19};
        for (int d = 0; d <= 18; d++) {
            due("D " + d, of("r1 0,10;f1 " + d + " 9 0 0;").thinks(1, 1), behind[d]);
        }
    }

    private static void asked() {
        says("only if BELIEF in OPINION P is V or more, 0 .. 20, P 9: whatever;");
        bounds("r1 10;f0 9 0 ", 0, 20, " 0;");
        bounds("r1 10;f0 9 9 ", 0, 20, " 0;");
        for (int v = 0; v <= 20; v++) {
            for (int belief = 0; belief <= 20; belief++) {
                SingleCopy x = of("r1 5," + belief + ";f0 12 1 " + v + " 0;f0 12 9 " + v + " 0;");
                due("V " + v + ", belief " + belief, x.thinks(1, 0), belief >= v ? 8 : 5);
                due("V " + v + ", P 9", x.thinks(2, 0), 8);
            }
        }
    }

    private static void costs() {
        says("C 0: it is so; 1 .. 9: not yet, it costs so much to make it so)");
        bounds("r1 10;f0 9 9 0 ", 0, 9, ";");
        due("C 0", of("r1 10;f0 9 9 0 0;").told(8), 1);
        due("C 0 can't be made so", of("r1 10;f0 9 9 0 0;").make(0), NOT);
        for (int c = 1; c <= 9; c++) {
            SingleCopy x = of("r1 10;f0 9 9 0 " + c + ";");
            due("C " + c + ": not yet", x.told(8), 0);
            due("C " + c + ": printed", x.night(1), NOT);
            due("C " + c + ": made so", x.make(0), c);
        }
    }

    private static void convincedFrom() {
        says("'h' H ';' (he is CONVINCED of an OPINION by BELIEF H or more, 1 .. 20; 10 untold; once).");
        bounds("r1 10;h", 1, 20, ";");
        due("untold", reads("r1 9,10,11;").told(7), 6);
        due("untold, H", reads("r1 9;").told(3), 10);
        due("H 1", reads("r1 0,1;h1;").told(7), 2);
        due("H 20", reads("r1 19,20;h20;").told(7), 2);
        reads("r1 1;h5;h5;", 3, 8);
        reads("r1 1;h;", 1, 6);
        reads("r1 1;h5", 1, 7);
        reads("r1 1;h5 5;", 1, 8);
        due("told, then untold", readBehind("r1 9;h5;", "r1 9;").told(3), 10);
    }

    private static SingleCopy readBehind(String earlier, String text) {
        SingleCopy x = of(earlier);
        read(x, text);
        return x;
    }

    private static void figures() {
        says("NUMBERS have one to three figures;");
        SingleCopy x = reads("r2 5,05,005;f002 018 009 020 009;h020;");
        due("three opinions alike", x.belief(0) * 10000 + x.belief(1) * 100 + x.belief(2), 50505);
        due("O", x.fact(0, 0), 2);
        due("H", x.told(3), 20);
        reads("r0002 5;", 2, 1);
        reads("r2 0005;", 2, 3);
        reads("r2 5;h0005;", 2, 6);
        reads("r2 5;f0 0009 9 0 0;", 2, 8);
    }

    private static void blanks() {
        says("blanks (32) may stand anywhere but within NUMBERS;");
        SingleCopy x = reads("  r  1  5  ,  6  ;  f  1  18  9  0  3  ;  h  7  ;  ");
        due("belief(1)", x.belief(1), 6);
        due("fact(0, 4)", x.fact(0, 4), 3);
        due("told(3)", x.told(3), 7);
        reads("r1 5,6;f1 18 9 0 3;h7;");
        reads("r1 1 0;", 1, 5);
        reads("r1 10;h1 0;", 1, 9);
        reads("r1 10;f0 1 8 9 0 0;", 2, 11);
        String text = " r 1 5 , 6 ; f 1 18 9 0 3 ; h 7 ; ";
        for (int i = 0; i < text.length(); i++) {
            for (char c : new char[] {0, 9, 10, 11, 12, 13, 28, 31, 33, 127, 133, 160, 255}) {
                if (text.charAt(i) == ' ') {
                    reads(text.substring(0, i) + c + text.substring(i + 1), 1, i);
                }
            }
        }
    }

    private static void sideBySide() {
        says("two NUMBERS side by side need one.");
        reads("r15;", 2, 1);
        reads("r1 10;f09 9 0 0;", 2, 7);
        reads("r1 10;f0 99 0 0;", 2, 9);
        reads("r1 10;f0 9 90 0;", 2, 11);
        reads("r1 10;f0 9 9 00;", 1, 15);
        reads("r1 10;f09900;", 2, 7);
    }

    private static void faults() {
        says("FAULTS, at the first letter that has one (the end at the text's length), of these the least:");
        reads("r9 9999;x", 2, 1);
        reads("x r9;", 1, 0);
        reads("r1 21;r1", 2, 3);
        reads("r1 1;r1 21;", 3, 5);
        reads("r1 9999", 2, 3);
        reads("r1 1 9999;", 1, 5);
        reads("r1 r", 1, 3);
        reads("r1 1;h5 h", 1, 8);
        reads(EIGHT.substring(0, EIGHT.length() - 1) + "f", 1, EIGHT.length() - 1);
        reads("r1 1;h5  ", 1, 9);
        reads("r ", 1, 2);
        cannotStand();
        outOfBounds();
        again();
        says("An empty text (or one of blanks alone) has no FAULT: no OPINIONS.");
        for (int length = 0; length <= 240; length++) {
            SingleCopy x = readBehindShort(" ".repeat(length));
            due("opinions, of " + length + " blanks", x.told(1), 0);
            due("facts, of " + length + " blanks", x.told(2), 0);
            due("fault(), of " + length + " blanks", x.fault(), NONE);
        }
    }

    private static SingleCopy readBehindShort(String text) {
        SingleCopy x = of("r1 5;" + FACT);
        due("city of " + text.length() + " blanks", read(x, text), 0);
        return x;
    }

    private static void cannotStand() {
        says("1 it cannot stand there (a letter that is no word, another word first than 'r'; a sixth B: at its ',').");
        for (char c = 0; c < 256; c++) {
            if (c != ' ') {
                reads(c + "1 10;", c == 'r' ? 0 : 1, c == 'r' ? NONE : 0);
            }
            if (c != ' ' && c != 'r' && c != 'f' && c != 'h') {
                reads("r1 10;" + c + "5;", 1, 6);
            }
        }
        reads("r1 1,1,1,1,1,", 1, 12);
        reads("r1 1,1,1,1,1 ,1;", 1, 13);
        reads("r1 1,1,1,1,1,21;", 1, 12);
        reads("r1 1,1,1,1,21,1;", 2, 11);
    }

    private static void outOfBounds() {
        says("2 a NUMBER of four figures or more, or out of its bounds;");
        reads("r1 0010;", 2, 3);
        reads("r1 010;");
        reads("r1 021;", 2, 3);
        reads("r1 10;h0;", 2, 7);
        reads("r1 10;f0 19 9 0 0;", 2, 9);
        says("an OPINION that there is not;");
        String opinions = "r1 1";
        for (int count = 1; count <= 5; count++) {
            String ahead = opinions + ";f";
            bounds(ahead, 0, count - 1, " 9 9 0 0;");
            opinions += ",1";
        }
        says("a P that is neither one nor 9 (at its first).");
        opinions = "r1 1";
        for (int count = 1; count <= 5; count++) {
            String ahead = opinions + ";f0 9   ";
            for (int p = 0; p <= 999; p++) {
                boolean fine = p < count || p == 9;
                SingleCopy x = reads(ahead + p + " 0 0;", fine ? 0 : 2, fine ? NONE : ahead.length());
                due("P of '" + ahead + p + "'", x.fact(0, 2), !fine ? UNKNOWN : p == 9 ? NONE : p);
            }
            reads(ahead + "0009 0 0;", 2, ahead.length());
            opinions += ",1";
        }
    }

    private static void again() {
        says("3 'r', 'h' again, a ninth 'f' (at it).");
        reads("r1 1;  r", 3, 7);
        reads("r1 1;h1;  h", 3, 10);
        reads("r1 1;h1;" + FACT + "h1;", 3, 8 + FACT.length());
        reads(EIGHT + "h1;f", 3, EIGHT.length() + 3);
        reads(EIGHT + "h1;h", 3, EIGHT.length() + 3);
        reads(EIGHT + "r", 3, EIGHT.length());
    }

    // ---- 2: belief

    private static void belief() {
        says("2 BELIEF is 0 to 20.");
        SingleCopy x = of("r2 20,0;f0 18 9 0 0;f1 0 9 0 0;");
        x.night(3);
        due("above 20", x.belief(0), 20);
        due("below 0", x.belief(1), 0);
        due("met by 20", x.meet(0, 20), 20);
        due("met by 0", x.meet(1, 0), 0);
        says("He reads a FACT: if BELIEF in its P is V or more (or P is none),");
        x = of("r2 10,9;f0 12 1 10 0;f1 10 9 20 0;f0 14 0 14 0;f0 11 1 10 0;");
        due("one less than V", x.thinks(1, 0), 10);
        due("P is none, V of no matter", x.thinks(2, 1), 10);
        due("just V, by what was read ahead of it", x.thinks(10, 0), 12);
        due("its own opinion, one less", x.thinks(4, 0), 10);
        x.meet(0, 20);
        x.meet(0, 20);
        due("its own opinion", x.belief(0) * 100 + x.thinks(4, 0), 1520);
        wearing();
        says("(cut towards 0; 0 and 20 are its bounds);");
        for (int b = 0; b <= 20; b++) {
            for (int d = 0; d <= 18; d++) {
                x = of("r1 " + b + ";f0 " + d + " 9 0 0;");
                x.night(1);
                int once = Math.max(0, Math.min(20, b + d - 9));
                due(b + " and " + (d - 9), x.belief(0), once);
                x.night(1);
                due(b + " and " + (d - 9) + ", again", x.belief(0), Math.max(0, Math.min(20, once + (d - 9) / 2)));
            }
        }
        says("then he has read it once more.");
        x = of(PAPER);
        for (int i = 0; i < 5; i++) {
            due("how often", x.fact(0, 6), i);
            due("another one", x.fact(1, 6), 0);
            x.night(1);
        }
    }

    private static void wearing() {
        says("BELIEF in its O is moved by D / (1 and how often he read that FACT already, whether it moved him or not)");
        SingleCopy x = of("r1 0,9;f0 18 1 10 0;");
        x.night(1);
        due("not moved", x.belief(0), 0);
        x.meet(1, 20);
        x.night(1);
        due("9 / 2", x.belief(0), 4);
        x.night(1);
        due("9 / 3", x.belief(0), 7);
        for (int often = 3; often <= 8; often++) {
            x.meet(0, 0);
            int ahead = x.belief(0);
            x.night(1);
            due("9 / " + (often + 1), x.belief(0) - ahead, 9 / (often + 1));
        }
        int ahead = x.belief(0);
        x.night(1);
        due("9 / 10", x.belief(0), ahead);
    }

    private static void night() {
        says("A NIGHT: a SHEET, a SET of FACTS that are so, K at most (it may be empty), is read,");
        SingleCopy x = of(PAPER);
        due("the empty sheet", x.night(0), NONE);
        due("a fact that is not so", x.night(8), NOT);
        due("one that is so, one that is not", x.night(9), NOT);
        due("K and one more", x.night(7), NOT);
        due("nights", x.told(5), 1);
        due("K", x.night(3), 0);
        says("the lesser FACT first.");
        x = of("r2 10;f0 0 0 10 0;f0 18 0 10 0;");
        x.night(3);
        due("-9, then too little for the other", x.belief(0), 1);
        x = of("r2 19;f0 18 9 0 0;f0 6 9 0 0;");
        x.night(3);
        due("up to the bound first", x.belief(0), 17);
        says("He SHOWS the first FACT of it that, when it is read, makes him CONVINCED of an OPINION of which he was not.");
        due("just H", of("r1 9;f0 10 9 0 0;").night(1), 0);
        due("one less than H", of("r1 8;f0 10 9 0 0;").night(1), NONE);
        due("of which he was so", of("r1 10;f0 10 9 0 0;").night(1), NONE);
        due("of which he is no more so", of("r1 10;f0 8 9 0 0;").night(1), NONE);
        due("the first of two", of("r2 9,9;f1 10 9 0 0;f0 10 9 0 0;").night(3), 0);
        due("the last one", of("r1 9;" + FACT.repeat(7) + "f0 10 9 0 0;").night(128), 7);
        due("not so in the end", of("r2 9;f0 10 9 0 0;f0 8 9 0 0;").night(3), 0);
        due("an empty sheet", of("r1 9;f0 10 9 0 0;").night(0), NONE);
        says("NIGHTS are counted.");
        x = of("r1 9;f0 10 9 0 0;");
        due("none", x.told(5), 0);
        x.night(0);
        x.night(1);
        due("an empty one, one with a fact", x.told(5), 2);
        x.night(2);
        due("a refused one", x.told(5), 2);
        due("60 by draws", x.drift(60), 62);
    }

    private static void doings() {
        says("MET: somebody of BELIEF v in an OPINION: his own becomes (2 times it and v) / 3.");
        for (int own = 0; own <= 20; own++) {
            for (int v = 0; v <= 20; v++) {
                SingleCopy x = of("r1 5," + own + ";");
                due("meet(1, " + v + ") of " + own, x.meet(1, v), (2 * own + v) / 3);
                due("belief then", x.belief(1), (2 * own + v) / 3);
                due("the other opinion", x.belief(0), 5);
            }
        }
        says("MADE SO: a FACT that was not is from now on; COST is counted.");
        SingleCopy x = of("r1 5;" + "f0 9 9 0 9;".repeat(8));
        for (int f = 7; f >= 0; f--) {
            due("not yet", x.night(1 << f), NOT);
            due("make(" + f + ")", x.make(f), 9 * (8 - f));
            due("from now on", x.night(1 << f), NONE);
        }
        due("all", x.told(8), 255);
        due("the greatest cost", x.told(6), 72);
    }

    // ---- 3: tried

    private static void triedChanges(String what, ToIntFunction<SingleCopy> call) {
        SingleCopy x = busy();
        SingleCopy y = busy();
        call.applyAsInt(x);
        due("all behind " + what, everything(x), everything(y));
    }

    private static void tried() {
        says("3 TRIED from now; nothing changes by it.");
        triedChanges("thinks", x -> x.thinks(9, 0) + x.thinks(3, NONE));
        triedChanges("soonest", x -> x.soonest(7, 0, NONE) + x.soonest(1, 6, 0));
        triedChanges("cannot", x -> x.cannot());
        triedChanges("least", x -> x.least(0, 0) + x.least(2, 1));
        triedChanges("rivals", x -> x.rivals(1, 4) + x.rivals(2, 1));
        triedChanges("shun", x -> x.shun(2, 0));
        triedChanges("holds", x -> x.holds(60, 3));
        triedChanges("worn", x -> x.worn());
        triedChanges("leftOut", x -> x.leftOut(NONE) + x.leftOut(0) + x.leftOut(-3));
        triedChanges("strengths", x -> x.strengths(0, 9) + x.strengths(4, 0));
        triedChanges("judge", x -> x.judge());
        says("HE THINKS behind a SHEET (one NIGHT): BELIEF in an OPINION; the FACT that he SHOWS; NONE.");
        int tries = 0;
        for (int sheet = 0; sheet < 64; sheet++) {
            SingleCopy x = of(PAPER);
            SingleCopy y = of(PAPER);
            x.night(33);
            y.night(33);
            int shown = y.night(sheet);
            for (int o = 0; o < 3 && shown != NOT; o++) {
                due("thinks(" + sheet + ", " + o + ")", x.thinks(sheet, o), y.belief(o));
                tries++;
            }
            due("thinks(" + sheet + ", NONE)", x.thinks(sheet, NONE), shown);
        }
        due("sheets", tries, 3 * 11);
        due("thinks(0, NONE)", of(PAPER).thinks(0, NONE), NONE);
        says("(Of a SHEET that may not be: NOT.)");
        due("a fact that is not so", of(PAPER).thinks(8, 0), NOT);
        due("more than K", of(PAPER).thinks(7, 0), NOT);
        due("no opinions", new SingleCopy().thinks(0, NONE), NOT);
        due("made so, it may", made(of(PAPER), 3).thinks(8, 0), 1);
    }

    private static void row(SingleCopy x, int all, int none, int... sheets) {
        due("soonest(" + all + ", " + none + ", NONE)", x.soonest(all, none, NONE), sheets.length);
        for (int i = 0; i < sheets.length; i++) {
            due("soonest(" + all + ", " + none + ", " + i + ")", x.soonest(all, none, i), sheets[i]);
        }
        for (int i : new int[] {sheets.length, 2, 3, MAX, -2, MIN}) {
            due("soonest(" + all + ", " + none + ", " + i + ")", x.soonest(all, none, i), NONE);
        }
    }

    private static void noRow(SingleCopy x, int all, int none) {
        for (int i : new int[] {NONE, 0, 1, 2, MAX, -2, MIN}) {
            due("soonest(" + all + ", " + none + ", " + i + ")", x.soonest(all, none, i), NONE);
        }
    }

    private static void soonestAndCannot() {
        says("SOONEST to be CONVINCED of all of a SET of OPINIONS, of none of another SET: the fewest NIGHTS, 0 .. 2;");
        String three = "r1 0,0,0;f0 18 9 0 0;f1 18 9 0 0;f2 18 9 0 0;h9;";
        row(new SingleCopy(), 0, 0);
        row(of(three), 0, 7);
        row(of(three), 1, 6, 1);
        row(of(three), 5, 2, 1, 4);
        noRow(of(three), 7, 0);
        noRow(of(three), 1, 1);
        row(of("r1 20,0;h20;"), 1, 2);
        noRow(of("r1 20,0;h20;"), 2, 1);
        noRow(of("r1 20,0;h20;"), 0, 1);
        row(of("r1 10;f0 8 9 0 0;"), 0, 1, 1);
        row(of("r1 9;f0 10 9 0 0;"), 1, 0, 1);
        says("of like ones the first (the least SHEET of the first NIGHT, then of the second): how many; the SHEET of the i-th; NONE.");
        row(of("r1 4;f0 12 9 0 0;f0 12 9 0 0;f0 12 9 0 0;"), 1, 0, 1, 2);
        row(of("r1 4;f0 11 9 0 0;f0 12 9 0 0;f0 12 9 0 0;"), 1, 0, 2, 4);
        row(of("r2 9,9;f0 10 9 0 0;f1 10 9 0 0;f0 11 9 0 0;"), 1, 0, 1);
        row(of("r2 9,9;f0 9 9 0 0;f1 10 9 0 0;f0 11 9 0 0;"), 3, 0, 6);
        row(of("r2 9,9;" + FACT.repeat(6) + "f1 10 9 0 0;f0 11 9 0 0;"), 3, 0, 192);
        row(of("r1 9,9;" + FACT.repeat(6) + "f1 10 9 0 0;f0 11 9 0 0;"), 3, 0, 64, 128);
        says("CANNOT: OPINIONS of which no row of 0 to 2 SHEETS makes him CONVINCED, other ones of no matter (a SET).");
        due("no opinions", new SingleCopy().cannot(), 0);
        due("all of five, without facts", of("r1 9,9,9,9,9;").cannot(), 31);
        due("none of five, without facts", of("r1 10,10,10,10,10;").cannot(), 0);
        due("each by itself", of(three).cannot(), 0);
        due("the third behind the second", of("r1 0,0,0;f0 18 9 0 0;f1 18 0 9 0;f2 18 1 9 0;h9;").cannot(), 4);
        due("only against another one", of("r1 10,9;f0 0 9 0 0;f1 10 9 0 0;").cannot(), 0);
        due("not so", of("r1 9;f0 18 9 0 1;").cannot(), 1);
        due("one less by two nights", of("r1 0;f0 15 9 0 0;").cannot(), 1);
        due("just by two nights", of("r1 1;f0 15 9 0 0;").cannot(), 0);
        due("convinced until now alone", of("r1 10;f0 0 9 0 0;").cannot(), 0);
    }

    private static void leftOutAndStrengths() {
        says("THOUGHT (6 at most): BELIEF in an OPINION is so much tomorrow.");
        SingleCopy x = of(PAPER);
        for (int i = 1; i <= 6; i++) {
            due("thought " + i, x.thought(0, 13), i);
        }
        due("one more", x.thought(0, 13), FULL);
        due("how many", x.told(10), 6);
        leftOutSheets();
        says("FACTS in all of these (SURE; 0 without);");
        x = of(PAPER);
        due("of all sheets", x.leftOut(-2), 0);
        x.thought(0, 13);
        due("of those with fact 0", x.leftOut(-2), 1);
        x.thought(2, 12);
        due("of one", x.leftOut(-2), 5);
        x.thought(2, 11);
        due("of none", x.leftOut(-2), 0);
        due("without facts", of("r1 5;").leftOut(-2), 0);
        says("FACTS that are so in none (OUT).");
        x = of(PAPER);
        due("all are in some", x.leftOut(-3), 0);
        x.thought(0, 13);
        x.thought(2, 12);
        due("all but those of the one sheet, that are so", x.leftOut(-3), PAPER_SO & ~5);
        x.thought(2, 11);
        due("without a sheet all that are so", x.leftOut(-3), PAPER_SO);
        x.make(3);
        due("one made so, too", x.leftOut(-3), PAPER_SO | 8);
        x = of("r1 5;" + "f0 9 9 0 1;".repeat(8));
        due("no fact is so", x.leftOut(-3), 0);
        strengths();
    }

    private static void leftOutSheets() {
        says("LEFT OUT: SHEETS tonight (without OPINIONS none) by which all that is THOUGHT is so: how many; the i-th (rising);");
        due("without opinions", new SingleCopy().leftOut(NONE), 0);
        due("without opinions, the first", new SingleCopy().leftOut(0), NONE);
        due("without facts", of("r1 5;").leftOut(NONE), 1);
        due("without facts, the empty sheet", of("r1 5;").leftOut(0), 0);
        SingleCopy x = of("r3 10;" + FACT.repeat(8));
        int count = 0;
        for (int sheet = 0; sheet < 256; sheet++) {
            if (Integer.bitCount(sheet) <= 3) {
                due("leftOut(" + count + ")", x.leftOut(count), sheet);
                count++;
            }
        }
        due("how many", x.leftOut(NONE), 93);
        due("leftOut(93)", x.leftOut(93), NONE);
        x.thought(0, 10);
        due("moved by nothing", x.leftOut(NONE), 93);
        x.thought(0, 9);
        due("two things at once", x.leftOut(NONE), 0);
        due("the first of none", x.leftOut(0), NONE);
        x = of("r1 20;f0 18 9 0 0;");
        x.thought(0, 20);
        due("at the bound", x.leftOut(NONE), 2);
    }

    private static int strengthsFor(String text, int thought, int nights) {
        SingleCopy x = of(text);
        for (int i = 0; i < nights; i++) {
            x.night(1);
        }
        x.thought(0, thought);
        return x.strengths(0, 1);
    }

    private static void strengths() {
        says("STRENGTHS of a FACT: numbers -9 to 9 in place of D (a SET, bit k: k less 9) by which behind a told SHEET all that is THOUGHT is so.");
        int all = (1 << 19) - 1;
        due("nothing thought", of("r1 5;" + FACT).strengths(0, 1), all);
        due("9 alone", strengthsFor("r1 0;" + FACT, 9, 0), 1 << 18);
        due("more than 9", strengthsFor("r1 0;" + FACT, 10, 0), 0);
        due("-9 alone", strengthsFor("r1 20;" + FACT, 11, 0), 1);
        due("less than -9", strengthsFor("r1 20;" + FACT, 10, 0), 0);
        due("0 alone", strengthsFor("r1 5;" + FACT, 5, 0), 1 << 9);
        due("down to 0", strengthsFor("r1 0;" + FACT, 0, 0), (1 << 10) - 1);
        due("up to 20", strengthsFor("r1 20;" + FACT, 20, 0), all & ~((1 << 9) - 1));
        due("read once: -1 to 1", strengthsFor("r1 5;" + FACT, 5, 1), 7 << 8);
        due("read once: 8 and 9", strengthsFor("r1 5;" + FACT, 9, 1), 3 << 17);
        due("read nine times: all", strengthsFor("r1 5;" + FACT, 5, 9), all);
        due("read eight times: all but -9 and 9", strengthsFor("r1 5;" + FACT, 5, 8), all & ~(1 | 1 << 18));
        SingleCopy x = of("r1 5;" + FACT);
        x.thought(0, 5);
        due("behind the empty sheet", x.strengths(0, 0), all);
        x.thought(0, 6);
        due("behind the empty sheet, thought otherwise", x.strengths(0, 0), 0);
    }

    private static void least(String text, int o, int cost, int set) {
        SingleCopy x = of(text);
        due("least(" + o + ", 0) of " + text, x.least(o, 0), cost);
        due("least(" + o + ", 1) of " + text, x.least(o, 1), set);
    }

    private static void make() {
        says("MAKE: the least COST of FACTS that are not so, to be MADE SO now, so that behind some SHEET tonight he is CONVINCED of an OPINION");
        least("r3 0;f0 12 9 0 9;f0 12 9 0 9;f0 12 9 0 9;h9;", 0, 27, 7);
        least("r2 0;f0 12 9 0 9;f0 12 9 0 9;f0 12 9 0 9;h9;", 0, NONE, NONE);
        least("r1 0;f0 18 9 0 9;h9;", 0, 9, 1);
        least("r1 0;f0 17 9 0 9;h9;", 0, NONE, NONE);
        least("r1 0;", 0, NONE, NONE);
        least("r1 0;f0 18 9 0 0;h9;", 0, 0, 0);
        least("r2 0;f0 18 9 0 5;f0 14 9 0 2;f0 13 9 0 2;h9;", 0, 4, 6);
        least("r2 0,0;f0 18 9 0 5;f1 18 0 9 7;h9;", 1, 12, 3);
        SingleCopy x = of("r1 0;f0 18 9 0 9;h9;");
        x.night(0);
        x.make(0);
        due("made so already", x.least(0, 0), 0);
        says("(of one of which he is so already, too);");
        least("r1 10;", 0, 0, 0);
        least("r1 20,0;f0 18 9 0 1;", 0, 0, 0);
        least("r1 10;f0 0 9 0 0;", 0, 0, 0);
        says("of like ones the least SET: COST; the SET; NONE.");
        least("r2 0;f0 18 9 0 4;f0 14 9 0 2;f0 13 9 0 2;h9;", 0, 4, 1);
        least("r2 0;f0 14 9 0 2;f0 13 9 0 2;f0 18 9 0 4;h9;", 0, 4, 3);
        least("r2 0;f0 14 9 0 2;f0 18 9 0 2;f0 13 9 0 0;h9;", 0, 2, 1);
        least("r2 0;f0 14 9 0 5;f0 18 9 0 1;f0 13 9 0 0;h9;", 0, 1, 2);
        least("r1 0;" + "f0 18 9 0 3;".repeat(8) + "h9;", 0, 3, 1);
        least("r1 0;" + FACT.repeat(6) + "f0 18 9 0 3;f0 18 9 0 3;h9;", 0, 3, 64);
        least("r1 0;" + FACT.repeat(7) + "f0 18 9 0 3;h9;", 0, 3, 128);
    }

    private static void rivalsEnd(String text, int o, int... ends) {
        SingleCopy x = of(text);
        for (int n = 1; n <= 4; n++) {
            due("rivals(" + o + ", " + n + ") of " + text, x.rivals(o, n), ends[n - 1]);
        }
    }

    private static void rivals() {
        says("RIVALS for an OPINION, n turns (1 .. 4):");
        String four = "r1 10;f0 14 9 0 0;f0 12 9 0 0;f0 5 9 0 0;f0 7 9 0 0;";
        rivalsEnd(four, 0, 15, 11, 14, 12);
        for (int n : new int[] {0, 5, -1, MIN, MAX}) {
            due("rivals(0, " + n + ")", of(four).rivals(0, n), OUTSIDE);
        }
        says("two print by turns a FACT each that is so and was not printed by them yet (it is read at once);");
        rivalsEnd("r1 10;f0 14 9 0 0;f0 12 9 0 1;", 0, 15, 15, 15, 15);
        rivalsEnd("r1 0,0;f0 18 9 0 0;f1 18 0 9 0;", 1, 0, 9, 9, 9);
        rivalsEnd("r1 0,0;f0 18 9 0 0;f1 18 0 9 0;f1 0 9 0 0;", 1, 0, 0, 0, 0);
        SingleCopy x = of("r1 5;f0 17 9 0 0;");
        x.night(1);
        due("what he read already may be printed", x.rivals(0, 1), 17);
        says("the first one wants BELIEF in the end as great, the other one as small as can be;");
        rivalsEnd("r1 10;f0 18 9 0 0;f0 17 9 0 0;f0 0 9 0 0;f0 1 9 0 0;", 0, 19, 10, 12, 10);
        rivalsEnd("r1 10;f0 8 9 0 0;f0 4 9 0 0;", 0, 9, 4, 4, 4);
        rivalsEnd("r1 10;f0 11 9 0 0;f0 12 9 0 0;", 0, 13, 15, 15, 15);
        rivalsEnd("r1 20;f0 18 9 0 0;f0 8 9 0 0;", 0, 20, 20, 20, 20);
        says("who has none prints none: BELIEF in the end.");
        rivalsEnd("r1 10;", 0, 10, 10, 10, 10);
        rivalsEnd("r1 10;f0 12 9 0 3;", 0, 10, 10, 10, 10);
        rivalsEnd("r1 10;f0 7 9 0 0;", 0, 8, 8, 8, 8);
    }

    private static void shunHoldsWorn() {
        says("SHUN, of an OPINION of which he is CONVINCED: BELIEFS v (0 .. 20) of somebody MET by whom he would not be so any more: "
            + "the least, the greatest (what 0, 1);");
        due("H 11, belief 12", of(PAPER).shun(1, 0) * 100 + of(PAPER).shun(1, 1), 8);
        due("the greatest of all", of("r1 20;h20;").shun(0, 1), 19);
        due("just one", of("r1 14;h10;").shun(0, 1), 1);
        due("20 itself", of("r1 20;h20;").meet(0, 20), 20);
        says("NONE: there is none, or he is not CONVINCED.");
        for (int h = 1; h <= 20; h++) {
            for (int own = 0; own <= 20; own++) {
                SingleCopy x = of("r1 " + own + ";h" + h + ";");
                int least = NONE;
                int greatest = NONE;
                for (int v = 20; v >= 0 && own >= h; v--) {
                    least = 2 * own + v < 3 * h ? v : least;
                    greatest = 2 * own + v < 3 * h && greatest == NONE ? v : greatest;
                }
                due("shun(0, 0), belief " + own + ", H " + h, x.shun(0, 0), least);
                due("shun(0, 1), belief " + own + ", H " + h, x.shun(0, 1), greatest);
            }
        }
        says("HOLDS: odds that in n days (0 .. 60) nobody tells him, by q of a hundred each: a BILLION times (100 less q) / 100 (cut).");
        for (int q = 0; q <= 100; q++) {
            long odds = 1000000000;
            for (int n = 0; n <= 60; n++) {
                due("holds(" + n + ", " + q + ")", new SingleCopy().holds(n, q), (int) odds);
                odds = odds * (100 - q) / 100;
            }
        }
        worn();
    }

    private static void worn() {
        says("WORN: FACTS (so or not) that would not move BELIEF any more whatever he thinks (D / (1 and how often read) is 0): a SET.");
        due("no facts", new SingleCopy().worn(), 0);
        for (int d = 0; d <= 18; d++) {
            SingleCopy x = of("r1 10;f0 " + d + " 9 0 0;");
            for (int often = 0; often <= 10; often++) {
                due("D " + (d - 9) + ", read " + often, x.worn(), Math.abs(d - 9) < 1 + often ? 1 : 0);
                x.night(1);
            }
        }
        due("not so", of("r1 10;f0 9 9 0 5;f0 10 9 0 5;").worn(), 1);
        due("at a bound it is not worn", of("r1 20;f0 18 9 0 0;").worn(), 0);
        due("nor if he does not think what it asks", of("r1 0;f0 18 0 20 0;").worn(), 0);
        due("all eight", of("r1 0;" + FACT.repeat(8)).worn(), 255);
    }

    // ---- the book, draws, what is undone

    private static void book() {
        says("THE BOOK (15 at most) tells BELIEFS: WRONG: the first that is otherwise now; NONE.");
        SingleCopy x = of("r1 7,8;");
        due("empty", x.judge(), NONE);
        for (int i = 1; i <= 14; i++) {
            due("entry " + i, x.write(i % 2, 7 + i % 2), i);
        }
        due("all so", x.judge(), NONE);
        due("the last entry", x.write(0, 8), 15);
        due("one more", x.write(0, 8), FULL);
        due("the last is wrong", x.judge(), 14);
        x.meet(1, 20);
        due("the first is wrong", x.judge(), 0);
    }

    /** The seed behind a draw, by another way of counting. */
    private static int next(int seed) {
        return BigInteger.valueOf(seed).multiply(BigInteger.valueOf(1103515245)).add(BigInteger.valueOf(12345))
            .mod(BigInteger.ONE.shiftLeft(31)).intValueExact();
    }

    private static void draws() {
        says("BY DRAWS: THE SEED (0 at first:");
        due("seed(1) of a new object", new SingleCopy().seed(1), 0);
        says("each DRAW it becomes it times 1103515245 and 12345, left over by 2 to the 31; the DRAW of n is it / 65536, left over by n):");
        int[] seeds = {0, 1, 2, 65535, 65536, 1 << 30, (1 << 30) + 1, 1103515245, MAX - 1, MAX, 12345, 2147418112, 1999999999};
        for (int seed : seeds) {
            SingleCopy x = of("r1 10;" + FACT);
            x.seed(seed);
            int drawn = seed;
            for (int night = 1; night <= 40; night++) {
                int often = x.fact(0, 6);
                x.drift(1);
                drawn = next(drawn);
                due("read, seed " + seed + ", night " + night, x.fact(0, 6) - often, drawn / 65536 % 3 == 0 ? 1 : 0);
            }
            due("the seed behind " + seed, x.seed(0), drawn);
        }
        says("n NIGHTS: for each FACT, one by one, that is so, while fewer than K are in the SHEET, a DRAW of 3: 0 it is in it.");
        drawnNights(1, 60, 8);
        drawnNights(2, 7, 8);
        drawnNights(3, 60, 8);
        drawnNights(3, 5, 2);
        SingleCopy x = of("r3 10;" + "f0 9 9 0 1;".repeat(3));
        x.seed(99);
        due("no fact is so: a night with the empty sheet", x.drift(60), 60);
        due("and no draw", x.seed(0), 99);
    }

    /** A drift of some nights, held against the sheets drawn here; every fourth fact is not so. */
    private static void drawnNights(int k, int nights, int facts) {
        StringBuilder text = new StringBuilder("r" + k + " 10,10;");
        for (int f = 0; f < facts; f++) {
            text.append('f').append(f % 2).append(' ').append(3 * f % 19).append(f % 4 == 3 ? " 9 0 2;" : " 9 0 0;");
        }
        SingleCopy x = of(text.toString());
        SingleCopy y = of(text.toString());
        int seed = 20261120;
        x.seed(seed);
        due("drift(" + nights + ")", x.drift(nights), nights);
        for (int night = 0; night < nights; night++) {
            int sheet = 0;
            for (int f = 0; f < facts; f++) {
                if (f % 4 != 3 && Integer.bitCount(sheet) < k) {
                    seed = next(seed);
                    sheet |= seed / 65536 % 3 == 0 ? 1 << f : 0;
                }
            }
            y.night(sheet);
        }
        y.seed(seed);
        due("drift(" + nights + ") with K " + k, mind(x), mind(y));
    }

    private static void undone() {
        says("UNDONE: the latest of night(), meet(), make(), drift() that was not refused");
        SingleCopy x = of(PAPER);
        x.night(8);
        x.meet(0, 21);
        x.make(0);
        x.drift(61);
        due("refused ones", x.told(12), 0);
        x.night(0);
        x.meet(0, 8);
        x.make(4);
        x.drift(1);
        due("one of each, that change little or nothing too", x.told(12), 4);
        x.thought(0, 1);
        x.write(0, 1);
        x.seed(5);
        x.feed(32);
        x.thinks(1, 0);
        x.tear();
        due("others", x.told(12), 4);
        says("(20 at most are kept, the oldest are lost):");
        x = of("r1 0;");
        int[] beliefs = new int[48];
        for (int i = 1; i < beliefs.length; i++) {
            beliefs[i] = x.meet(0, i * 7 % 21);
            due("how many are kept", x.told(12), Math.min(20, i));
        }
        for (int i = 1; i <= 20; i++) {
            due("undo() " + i, x.undo(), 20 - i);
            due("belief behind undo() " + i, x.belief(0), beliefs[beliefs.length - 1 - i]);
        }
        due("the 21st", x.undo(), NOT);
        due("belief behind the 21st", x.belief(0), beliefs[beliefs.length - 21]);
        asAhead();
        images();
    }

    private static void asAhead() {
        says("BELIEFS, how often FACTS were read, which are so, NIGHTS, COST, what he SHOWED are as ahead of it; THE SEED stays.");
        SingleCopy x = of(PAPER);
        x.seed(8);
        String[] ahead = new String[4];
        ahead[0] = mind(x);
        x.night(33);
        ahead[1] = mind(x);
        x.meet(2, 20);
        ahead[2] = mind(x);
        x.make(3);
        ahead[3] = mind(x);
        due("he showed", x.told(9), 0);
        x.drift(60);
        int drawn = x.seed(8);
        for (int i = 3; i >= 0; i--) {
            x.undo();
            due("behind undo()", mind(x), ahead[i]);
        }
        x.seed(drawn);
        x.night(0);
        x.undo();
        due("undoing what draws nothing", x.seed(8), drawn);
        x.drift(1);
        x.undo();
        int seed = 8;
        for (int f = 0, printed = 0; f < 4 && printed < 2; f++) {
            seed = next(seed);
            printed += seed / 65536 % 3 == 0 ? 1 : 0;
        }
        due("undoing draws", x.seed(8), seed);
        allOfTheLast();
    }

    /** Five opinions, eight facts, all of them read: nothing of it may be lost. */
    private static void allOfTheLast() {
        SingleCopy x = of("r3 1,2,3,4,5;" + "f4 10 9 0 0;".repeat(3) + "f3 9 9 0 0;f0 9 9 0 0;f1 9 9 0 0;f2 9 9 0 0;f4 12 9 0 7;h9;");
        x.make(7);
        x.night(0b111);
        x.night(0b11001);
        x.night(0b1100000);
        x.night(0b1000000);
        x.night(0b11100000);
        String all = "5 7 16 255 7 1 2 3 4 11 2 1 1 1 1 2 3 1 0";
        due("ahead", mind(x), all);
        x.keep(0);
        x.night(0b11000001);
        x.undo();
        due("undone", mind(x), all);
        x.drift(9);
        x.meet(0, 20);
        x.goBack(0);
        due("an image", mind(x), all);
    }

    private static void images() {
        says("IMAGES 0, 1 keep these, THE SEED.");
        SingleCopy x = of(PAPER);
        x.seed(8);
        x.night(33);
        x.make(3);
        due("keep(0)", x.keep(0), 1);
        String first = mind(x);
        x.drift(9);
        x.meet(2, 20);
        due("keep(1)", x.keep(1), 1);
        String second = mind(x);
        x.drift(9);
        x.make(4);
        due("goBack(0)", x.goBack(0), 1);
        due("image 0", mind(x), first);
        due("goBack(1)", x.goBack(1), 1);
        due("image 1", mind(x), second);
        due("image 2", x.keep(2), UNKNOWN);
        due("image -1", x.keep(-1), UNKNOWN);
        namesNone("Ahead of the calls `feed`, `city`, `fault`, `told`, `belief`, `fact` the interface says: ---- the city.");
        namesNone("Ahead of the calls `night`, `meet`, `make`, `drift`, `undo` the interface says: ---- what is done.");
        namesNone("Ahead of the calls `thinks`, `soonest`, `cannot`, `least`, `rivals`, `shun`, `holds`, `worn` the interface says: ---- tried.");
        namesNone("Ahead of the calls `thought`, `leftOut`, `strengths`, `write`, `tear`, `judge` the interface says: ---- what is thought.");
        namesNone("Ahead of the calls `seed`, `keep`, `goBack` the interface says: ---- draws, images.");
    }
}
