/** What the tests share: answers held against those that are due, texts told, all that can be looked at. */
abstract class Checks {
    static final int NONE = -1;
    static final int UNKNOWN = -1000000001;
    static final int OUTSIDE = -1000000002;
    static final int NOT = -1000000003;
    static final int FULL = -1000000004;
    static final int MIN = Integer.MIN_VALUE;
    static final int MAX = Integer.MAX_VALUE;

    /** Three opinions, sheets of two facts; facts 0, 1, 2, 5 are so, 3 and 4 cost 3 and 4. */
    static final String PAPER = "r2 8,12,3;f0 14 9 0 0;f1 4 0 10 0;f2 18 0 12 0;f0 2 9 0 3;f2 15 1 5 4;f1 17 9 0 0;h11;";
    static final int PAPER_SO = 1 | 2 | 4 | 32;

    static String heading = "";
    static int wrong = 0;

    static void due(String what, int got, int want) {
        if (got != want) {
            wrong++;
            System.out.println(heading + ": " + what + " answered " + got + ", due is " + want);
        }
    }

    static void due(String what, String got, String want) {
        if (!got.equals(want)) {
            wrong++;
            System.out.println(heading + ": " + what + " is " + got + ", due is " + want);
        }
    }

    static void end(String allWell) {
        System.out.println(wrong == 0 ? allWell : wrong + " answers are not as due");
        if (wrong != 0) {
            System.exit(1);
        }
    }

    static void tell(SingleCopy x, String text) {
        for (int i = 0; i < text.length(); i++) {
            x.feed(text.charAt(i));
        }
    }

    static int read(SingleCopy x, String text) {
        tell(x, text);
        return x.city();
    }

    static SingleCopy of(String text) {
        SingleCopy x = new SingleCopy();
        due("city of " + text, Math.min(0, read(x, text)), 0);
        return x;
    }

    static SingleCopy made(SingleCopy x, int f) {
        x.make(f);
        return x;
    }

    /** What can be undone, and the seed. */
    static String mind(SingleCopy x) {
        StringBuilder all = new StringBuilder();
        for (int what = 5; what <= 9; what++) {
            all.append(x.told(what)).append(' ');
        }
        int opinions = x.told(1);
        for (int o = 0; o < opinions; o++) {
            all.append(x.belief(o)).append(' ');
        }
        int facts = x.told(2);
        for (int f = 0; f < facts; f++) {
            all.append(x.fact(f, 6)).append(' ');
        }
        int seed = x.seed(0);
        x.seed(seed);
        return all.append(seed).toString();
    }

    /** All that can be looked at without changing anything, but for the place of the fault. */
    static String look(SingleCopy x) {
        StringBuilder all = new StringBuilder(mind(x));
        int facts = x.told(2);
        for (int f = 0; f < facts; f++) {
            for (int what = 0; what <= 5; what++) {
                all.append(' ').append(x.fact(f, what));
            }
        }
        for (int what = 0; what <= 12; what++) {
            all.append(' ').append(x.told(what));
        }
        return all.append(' ').append(x.judge()).append(' ').append(x.leftOut(-1)).append(' ').append(x.leftOut(-2)).toString();
    }

    /** All that the object holds, what lies behind undo(), the images and the text too: the object is used up by it. */
    static String everything(SingleCopy x) {
        StringBuilder all = new StringBuilder(look(x)).append(" fault ").append(x.fault()).append(" undone");
        int undone = x.undo();
        for (int i = 0; i < 20 && undone != NOT; i++) {
            all.append(' ').append(undone).append(' ').append(x.belief(0)).append(' ').append(x.told(5)).append(' ').append(x.told(6));
            undone = x.undo();
        }
        for (int i = 0; i < 2; i++) {
            all.append(" image ").append(x.goBack(i)).append(' ').append(mind(x));
        }
        all.append(" torn ").append(x.tear());
        return all.append(" text ").append(x.city()).append(' ').append(x.fault()).append(' ').append(x.told(1)).toString();
    }
}
