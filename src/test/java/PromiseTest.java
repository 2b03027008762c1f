/** Each promise of the document by hand-worked cases: ordinary ones, edges, and wrong inputs. */
public final class PromiseTest {
    private static final int BAD = TorchPlate.BAD, STATE = TorchPlate.STATE, FULL = TorchPlate.FULL, NONE = TorchPlate.NONE;
    /** A square with a triangle in it, two pieces. */
    private static final String NESTED = "k0 0;k9 0;k9 9;k0 9;k1 1;k8 1;k8 8;p0 1 2 3;p4 5 6;h20;";
    /** A star of three seams, a single seam and a bent one: three pieces with odd corners. */
    private static final String SEAMS =
            "k5 5;k0 0;k5 0;k10 0;k0 5;k10 5;k0 10;k5 10;k10 10;s0 1;s0 2;s0 3;s4 6;s5 8;s7 8;";
    /** Two parts, each WITHIN the other one, that share no corner. */
    private static final String CROSSED = "k6 5;k0 0;k0 10;k4 5;k10 0;k10 10;p0 1 2;p3 4 5;";
    private static final String TRIANGLE = "k0 0;k4 0;k0 4;p0 1 2;";
    private static final String PATH = "k0 0;k1 0;k2 0;k3 0;k4 0;s0 1;s1 2;s2 3;s3 4;";
    private static int passed = 0;
    private static int failed = 0;
    private static final int PROMISES = 22;
    private static final int[] looks = new int[PROMISES + 1];

    private static void due(int promise, String call, int got, int want) {
        looks[promise]++;
        if (got == want) {
            passed++;
        } else {
            failed++;
            System.out.println("promise " + promise + ": " + call + " answered " + got + ", due is " + want);
        }
    }

    private static TorchPlate typed(String text) {
        TorchPlate t = new TorchPlate();
        type(t, text);
        return t;
    }

    private static void type(TorchPlate t, String text) {
        for (int i = 0; i < text.length(); i++) {
            t.type(text.charAt(i));
        }
    }

    private static TorchPlate told(String text) {
        TorchPlate t = typed(text);
        int items = t.plate();
        if (items < 0) {
            failed++;
            System.out.println("not a plate: " + text + " " + items);
        }
        return t;
    }

    private static void fault(String text, int place) {
        TorchPlate t = told(TRIANGLE);
        t.moves(1);
        type(t, text);
        due(4, "plate() of '" + text + "'", t.plate(), -10 - place);
        due(4, "letters after '" + text + "'", t.count(9), text.length());
        due(4, "corners after '" + text + "'", t.count(0), 3);
        due(4, "torch after '" + text + "'", t.count(5), 1);
        due(4, "undo after '" + text + "'", t.undo(), 0);
    }

    private static void sound(String text, int items) {
        TorchPlate t = typed(text);
        due(4, "plate() of '" + text + "'", t.plate(), items);
        due(4, "letters after '" + text + "'", t.count(9), 0);
    }

    public static void main(String[] args) {
        newObject();
        typing();
        faults();
        soundTexts();
        readAnew();
        corners();
        cuts();
        parts();
        withinEdges();
        burning();
        heat();
        fallingAhead();
        moving();
        following();
        undoing();
        pieces();
        links();
        rounds();
        tours();
        seeing();
        asking();
        images();
        counting();
        for (int promise = 1; promise <= PROMISES; promise++) {
            if (looks[promise] == 0) {
                failed++;
                System.out.println("promise " + promise + " was not looked at");
            }
        }
        System.out.println("promises: " + passed + " answers as due, " + failed + " not");
        if (failed != 0) {
            System.exit(1);
        }
    }

    private static void newObject() {
        TorchPlate t = new TorchPlate();
        for (int what = 0; what <= 10; what++) {
            due(1, "count(" + what + ")", t.count(what), what == 5 ? NONE : 0);
        }
        due(1, "corner(0, 0)", t.corner(0, 0), BAD);
        due(1, "cut(0, 0)", t.cut(0, 0), BAD);
        due(1, "part(0, 0)", t.part(0, 0), BAD);
        due(1, "burns(0)", t.burns(0), BAD);
        due(1, "moves(0)", t.moves(0), BAD);
        due(1, "moves(NONE)", t.moves(NONE), BAD);
        due(1, "follows()", t.follows(), STATE);
        due(1, "undo()", t.undo(), STATE);
        due(1, "piece(0, 0)", t.piece(0, 0), BAD);
        due(1, "link(0)", t.link(0), BAD);
        due(1, "round(0, 0, 0)", t.round(0, 0, 0), BAD);
        due(1, "tour(-1)", t.tour(-1), 0);
        due(1, "tour(0)", t.tour(0), NONE);
        due(1, "sees(0, 0, 1)", t.sees(0, 0, 1), BAD);
        due(1, "forget()", t.forget(), 0);
        due(1, "unseen()", t.unseen(), 0);
        due(1, "ask()", t.ask(), NONE);
        due(1, "back(0)", t.back(0), STATE);
        due(1, "keep(0)", t.keep(0), 0);
        due(1, "back(0)", t.back(0), 0);
        due(1, "clear()", t.clear(), 0);
        due(1, "plate()", t.plate(), 0);
    }

    private static void typing() {
        TorchPlate t = new TorchPlate();
        due(2, "type(-1)", t.type(-1), BAD);
        due(2, "type(256)", t.type(256), BAD);
        due(2, "type(0)", t.type(0), 1);
        due(2, "type(255)", t.type(255), 2);
        for (int i = 3; i <= 110; i++) {
            due(2, "type", t.type(32), i);
        }
        due(2, "type(32)", t.type(32), FULL);
        due(2, "type(300)", t.type(300), BAD);
        due(2, "count(9)", t.count(9), 110);
        due(3, "clear()", t.clear(), 110);
        due(3, "count(9)", t.count(9), 0);
        due(3, "clear()", t.clear(), 0);
        due(2, "type(32)", t.type(32), 1);
        due(4, "plate() of a blank", t.plate(), 0);
        due(4, "count(9)", t.count(9), 0);
    }

    private static void faults() {
        String nine = "k0 0;k1 0;k2 0;k3 0;k4 0;k5 0;k6 0;k7 0;k8 0;";
        String six = "k0 0;k1 0;k2 0;k3 0;k4 0;k5 0;";
        String three = "k0 0;k1 0;k2 0;";
        fault("h1;h1;", 3);
        fault("h1;h", 3);
        fault("h21;", 1);
        fault("h 21;", 2);
        fault("h99;", 1);
        fault("h100;", 1);
        fault("h05;", 1);
        fault("h00;", 1);
        fault("h;", 1);
        fault("h1 2;", 3);
        fault("hh1;", 1);
        fault("k21 0;", 1);
        fault("k0 21;", 3);
        fault("k0;", 2);
        fault("k;", 1);
        fault("k1 1 1;", 5);
        fault("k1 1;k1 1;", 8);
        fault("k1 1;k1  1;", 9);
        fault("k1k", 2);
        fault(nine + "k9 0;", 45);
        fault(nine + "k", 45);
        fault(three + "p0 1;", 19);
        fault(three + "p;", 16);
        fault(three + "p0 1 0;", 20);
        fault(three + "p0 1 3;", 20);
        fault(three + "p3", 16);
        fault(six + "p0 1 2 3 4 5;", 41);
        fault(three + "p0 1 2;p0 1 2;p0 1 2;p0 1 2;p0 1 2;", 43);
        fault(three + "s0 0;", 18);
        fault(three + "s0 3;", 18);
        fault(three + "s3 0;", 16);
        fault(three + "s0;", 17);
        fault(three + "s;", 16);
        fault(three + "s0 1 2;", 20);
        fault("s0 1;", 1);
        fault("p0 1 2;", 1);
        fault(";", 0);
        fault("5;", 0);
        fault("x", 0);
        fault("K0 0;", 0);
        fault("k0 0;\t", 5);
        fault("k0 0;;", 5);
        fault("k0 -1;", 3);
        fault("k0 0,", 4);
        fault("k0 0;h1;k1 1;x;h2;", 13);
        fault("k0", 2);
        fault("k0 0", 4);
        fault("k0 0  ", 6);
        fault("h", 1);
        fault(three + "p0 1 2", 21);
        fault(three + "s0 1", 19);
        fault("k123456789012 0;", 1);
        String fourteen = "k0 0;k1 0;k2 0;k3 0;k4 0;k5 0;p0 1 2 3 4;p0 2 4 1 3;s0 5;s1 5;s2 5;s3 5;";
        sound(fourteen, 12);
        sound(fourteen + "s5 0;s4 2;p0 1 2;p0 5 1;", 16);
        fault(fourteen + "s5 4;", fourteen.length() + 3);
        fault(fourteen + "p0 5 4;", fourteen.length() + 5);
        fault(fourteen + "p4 0 5;", fourteen.length() + 6);
        fault(fourteen + "p4 0 5", fourteen.length() + 6);
    }

    private static void soundTexts() {
        sound("", 0);
        sound("h0;", 1);
        sound("h20;", 1);
        sound("k20 20;", 1);
        sound("  k 1   1 ; k4 5 ;s 0 1; s1 0;", 4);
        sound("k0 0;k0 1;k1 0;", 3);
        sound("k0 0;k1 0;k2 0;p0 1 2;k3 0;k4 0;p0 1 2 3 4;h7;", 8);
        due(4, "cuts", told("k0 0;k1 0;s0 1;s1 0;").count(1), 1);
    }

    private static void readAnew() {
        TorchPlate t = told(NESTED);
        t.follows();
        t.follows();
        t.keep(0);
        t.keep(1);
        t.sees(0, 1, 1);
        type(t, TRIANGLE);
        due(4, "plate()", t.plate(), 4);
        int[] counts = {3, 3, 1, 0, 3, 0, 0, 1, 0, 0, 0};
        for (int what = 0; what < counts.length; what++) {
            due(4, "count(" + what + ")", t.count(what), counts[what]);
        }
        due(4, "back(0)", t.back(0), STATE);
        due(4, "back(1)", t.back(1), STATE);
        due(4, "undo()", t.undo(), STATE);
        due(4, "corner(0, 3)", t.corner(0, 3), NONE);
        due(4, "plate()", t.plate(), 0);
        due(4, "count(0)", t.count(0), 0);
        due(4, "count(5)", t.count(5), NONE);
        due(4, "count(1)", t.count(1), 0);
    }

    private static void corners() {
        TorchPlate t = told(NESTED);
        due(5, "corner(2, 0)", t.corner(2, 0), 9);
        due(5, "corner(3, 0)", t.corner(3, 0), 0);
        due(5, "corner(3, 1)", t.corner(3, 1), 9);
        due(5, "corner(0, 2)", t.corner(0, 2), 2);
        due(5, "corner(0, 3)", t.corner(0, 3), NONE);
        t.burns(1);
        due(5, "corner(0, 2)", t.corner(0, 2), 1);
        due(5, "corner(0, 3)", t.corner(0, 3), 0);
        due(5, "corner(1, 3)", t.corner(1, 3), 9);
        due(5, "corner(7, 0)", t.corner(7, 0), BAD);
        due(5, "corner(-1, 0)", t.corner(-1, 0), BAD);
        due(5, "corner(0, 4)", t.corner(0, 4), BAD);
        due(5, "corner(0, -1)", t.corner(0, -1), BAD);
        due(5, "corner(MAX, 0)", t.corner(Integer.MAX_VALUE, 0), BAD);
        due(5, "corner(MIN, 0)", t.corner(Integer.MIN_VALUE, 0), BAD);
    }

    private static void cuts() {
        TorchPlate t = told("k0 0;k10 0;k3 5;k7 7;s3 2;s1 0;s2 0;");
        int[][] ends = {{0, 1}, {0, 2}, {2, 3}};
        int[] ways = {10, 8, 6};
        for (int c = 0; c < 3; c++) {
            due(6, "cut(" + c + ", 0)", t.cut(c, 0), ends[c][0]);
            due(6, "cut(" + c + ", 1)", t.cut(c, 1), ends[c][1]);
            due(6, "cut(" + c + ", 2)", t.cut(c, 2), 1);
            due(6, "cut(" + c + ", 3)", t.cut(c, 3), 0);
            due(6, "cut(" + c + ", 4)", t.cut(c, 4), ways[c]);
        }
        t.burns(2);
        due(6, "cut(1, 2)", t.cut(1, 2), 0);
        due(6, "cut(1, 3)", t.cut(1, 3), NONE);
        due(6, "cut(0, 3)", t.cut(0, 3), 0);
        due(6, "cut(2, 3)", t.cut(2, 3), 1);
        due(6, "cut(3, 0)", t.cut(3, 0), BAD);
        due(6, "cut(-1, 0)", t.cut(-1, 0), BAD);
        due(6, "cut(0, 5)", t.cut(0, 5), BAD);
        due(6, "cut(0, -1)", t.cut(0, -1), BAD);
    }

    private static void parts() {
        TorchPlate t = told(NESTED);
        due(7, "part(0, 0)", t.part(0, 0), 4);
        due(7, "part(1, 0)", t.part(1, 0), 3);
        due(7, "part(0, 2)", t.part(0, 2), 0);
        due(7, "part(1, 2)", t.part(1, 2), 1);
        due(7, "part(0, 1)", t.part(0, 1), 4);
        t.burns(1);
        due(7, "part(0, 1)", t.part(0, 1), 3);
        due(7, "part(1, 1)", t.part(1, 1), 3);
        due(7, "part(2, 0)", t.part(2, 0), BAD);
        due(7, "part(-1, 0)", t.part(-1, 0), BAD);
        due(7, "part(0, 3)", t.part(0, 3), BAD);
        due(7, "part(0, -1)", t.part(0, -1), BAD);
        due(7, "five", told("k0 0;k1 0;k2 2;k1 3;k0 3;p0 1 2 3 4;").part(0, 0), 5);
        TorchPlate c = told(CROSSED);
        due(7, "crossed part(0, 2)", c.part(0, 2), 2);
        due(7, "crossed part(1, 2)", c.part(1, 2), 1);
    }

    /** Whether the part 4 5 6 is within the square 0 1 2 3, by the place of corner 4. */
    private static int inSquare(String ring, int x, int y) {
        TorchPlate t = told("k2 2;k12 2;k12 12;k2 12;k" + x + " " + y + ";k20 19;k20 20;p" + ring + ";p4 5 6;");
        return t.part(1, 2);
    }

    private static void withinEdges() {
        due(7, "inside", inSquare("0 1 2 3", 3, 3), 1);
        due(7, "inside, the other way round", inSquare("3 2 1 0", 3, 3), 1);
        due(7, "on the lower cut", inSquare("0 1 2 3", 7, 2), 0);
        due(7, "on the upper cut", inSquare("0 1 2 3", 7, 12), 0);
        due(7, "on the left cut", inSquare("0 1 2 3", 2, 7), 0);
        due(7, "on the right cut", inSquare("3 2 1 0", 12, 7), 0);
        due(7, "beside", inSquare("0 1 2 3", 1, 7), 0);
        due(7, "beside, on a cut's line", inSquare("0 1 2 3", 14, 2), 0);
        due(7, "below", inSquare("0 1 2 3", 7, 1), 0);
        due(7, "far", inSquare("0 1 2 3", 20, 2), 0);
        due(7, "bow tie, lower wing", inSquare("0 1 3 2", 7, 3), 1);
        due(7, "bow tie, upper wing", inSquare("0 1 3 2", 7, 11), 1);
        due(7, "bow tie, its middle", inSquare("0 1 3 2", 7, 7), 0);
        due(7, "bow tie, beside", inSquare("0 1 3 2", 3, 7), 0);
        // The first corner decides, not the others.
        due(7, "first corner is shared",
                told("k0 0;k9 0;k9 9;k0 9;k4 4;k5 4;p0 1 2 3;p0 4 5;").part(1, 2), 0);
        due(7, "another corner is shared",
                told("k0 0;k9 0;k9 9;k0 9;k4 3;k5 4;p0 1 2 3;p4 5 0;").part(1, 2), 1);
        // A star of five goes round its middle twice.
        due(7, "star", told("k10 18;k4 2;k18 12;k2 12;k16 2;k10 9;k11 9;k10 10;p0 1 2 3 4;p5 6 7;").part(1, 2), 1);
        due(7, "ring in a line", told("k0 0;k9 0;k5 0;k4 0;k4 1;k4 2;p0 1 2;p3 4 5;").part(1, 2), 0);
        due(7, "three deep",
                told("k0 0;k20 0;k0 20;k1 1;k15 1;k1 15;k2 2;k5 2;k2 5;p0 1 2;p3 4 5;p6 7 8;").part(2, 2), 3);
    }

    private static void burning() {
        TorchPlate t = told("k0 0;k5 0;k5 5;s0 1;s1 2;");
        due(8, "burns(0)", t.burns(0), BAD);
        due(8, "burns(3)", t.burns(3), BAD);
        due(8, "burns(-1)", t.burns(-1), BAD);
        due(8, "burns(2)", t.burns(2), STATE);
        due(8, "count(10)", t.count(10), 0);
        due(8, "burns(1)", t.burns(1), 5);
        due(8, "count(5)", t.count(5), 1);
        due(8, "count(6)", t.count(6), 5);
        due(8, "count(4)", t.count(4), 1);
        due(8, "count(10)", t.count(10), 1);
        due(8, "burns(0) again", t.burns(0), STATE);
        due(8, "burns(1)", t.burns(1), BAD);
        due(8, "burns(2)", t.burns(2), 10);
        due(8, "burns(1) again", t.burns(1), STATE);
        due(8, "count(4)", t.count(4), 0);
    }

    /** TIME when the last side of a triangle (ways 4, 8, 4) ends. */
    private static int lastSide(int heat) {
        TorchPlate t = told(TRIANGLE + "h" + heat + ";");
        t.burns(1);
        t.burns(2);
        return t.burns(0);
    }

    private static void heat() {
        due(8, "no heat", lastSide(0), 16);
        due(8, "heat 16: just cool", lastSide(16), 16);
        due(8, "heat 17: waits, so that where it comes from counts too", lastSide(17), 33);
        due(8, "heat 20", lastSide(20), 36);
        TorchPlate t = told(TRIANGLE + "h20;");
        due(8, "burns(1)", t.burns(1), 4);
        due(9, "moves(0)", t.moves(0), 8);
        due(8, "burns(2), from a hot corner", t.burns(2), 24);
        due(5, "corner(0, 3): when it began", t.corner(0, 3), 20);
        due(5, "corner(2, 3): when it ended", t.corner(2, 3), 24);
        due(8, "burns(1), goes on, to a corner that is cool by then", t.burns(1), 32);
        TorchPlate u = told(TRIANGLE + "h20;");
        u.burns(1);
        u.moves(2);
        u.moves(1);
        due(8, "burns(2), moves came between", u.burns(2), 32);
        TorchPlate v = told(TRIANGLE + "h20;");
        v.burns(1);
        v.moves(2);
        v.undo();
        due(8, "burns(2), the move between was undone", v.burns(2), 12);
        TorchPlate w = told("h20;k0 0;k10 0;k0 10;s0 1;s0 2;");
        w.burns(1);
        w.moves(2);
        due(8, "burns(0), to a corner that is cool long since", w.burns(0), 40);
        TorchPlate x = told("h20;k0 0;k1 0;k2 0;s0 1;s1 2;");
        x.burns(1);
        x.moves(2);
        due(8, "burns(1), to a hot corner", x.burns(1), 21);
        due(5, "corner(2, 3)", x.corner(2, 3), 20);
    }

    private static void fallingAhead() {
        TorchPlate t = told(NESTED);
        t.burns(1);
        t.burns(2);
        t.burns(3);
        int time = t.count(6);
        due(8, "burns(0): the square may not fall", t.burns(0), STATE);
        due(8, "count(6)", t.count(6), time);
        due(8, "count(4)", t.count(4), 4);
        due(8, "count(5)", t.count(5), 3);
        due(8, "count(10)", t.count(10), 3);
        t.moves(4);
        t.burns(5);
        t.burns(6);
        t.burns(4);
        due(8, "part(1, 1)", t.part(1, 1), 0);
        t.moves(3);
        due(8, "burns(0): now it may", t.burns(0) > time ? 1 : 0, 1);
        TorchPlate c = told(CROSSED);
        c.burns(1);
        c.burns(2);
        due(8, "crossed, burns(0)", c.burns(0), STATE);
        c.moves(3);
        c.burns(4);
        c.burns(5);
        due(8, "crossed, burns(3)", c.burns(3), STATE);
        // The last cut of both parts at once: nothing is left within.
        TorchPlate s = told("k8 0;k0 0;k4 9;k4 2;k4 3;p1 0 2;p3 1 0;");
        due(8, "shared, part(1, 2)", s.part(1, 2), 1);
        s.moves(3);
        s.burns(0);
        s.moves(3);
        s.burns(1);
        s.moves(2);
        s.burns(1);
        s.moves(2);
        due(8, "shared, burns(0)", s.burns(0) > 0 ? 1 : 0, 1);
        due(8, "shared, burns(1)", s.burns(1) > 0 ? 1 : 0, 1);
        due(8, "shared, left", s.count(4), 0);
    }

    private static void moving() {
        TorchPlate t = told(NESTED);
        due(9, "moves(0)", t.moves(0), BAD);
        due(9, "moves(7)", t.moves(7), BAD);
        due(9, "moves(-1)", t.moves(-1), BAD);
        due(9, "moves(6)", t.moves(6), 16);
        due(9, "count(5)", t.count(5), 6);
        due(9, "moves(4)", t.moves(4), 30);
        due(9, "count(6)", t.count(6), 30);
        due(9, "count(4)", t.count(4), 7);
        due(9, "corner(4, 3)", t.corner(4, 3), NONE);
        due(9, "count(10)", t.count(10), 2);
    }

    private static void following() {
        TorchPlate t = told(NESTED);
        int[] corners = {4, 5, 6, 4, 0, 1, 2, 3, 0};
        for (int corner : corners) {
            due(10, "follows()", t.follows(), corner);
        }
        due(10, "count(4)", t.count(4), 0);
        due(10, "follows()", t.follows(), STATE);
        due(10, "count(10)", t.count(10), 9);
        due(10, "crossed follows()", told(CROSSED).follows(), STATE);
        // One piece, and the first step of its round would let the outer part fall.
        TorchPlate s = told("k0 0;k8 0;k4 9;k4 2;k4 3;p0 1 2;p3 4 0;");
        s.burns(1);
        s.burns(2);
        s.moves(4);
        s.burns(0);
        due(10, "round(0, 0, 0)", s.round(0, 0, 0), 2);
        due(10, "follows(): it may not be", s.follows(), STATE);
        due(10, "count(10)", s.count(10), 4);
        due(10, "count(4)", s.count(4), 3);
    }

    private static void undoing() {
        TorchPlate t = told(NESTED);
        due(11, "undo()", t.undo(), STATE);
        for (int i = 0; i < 12; i++) {
            t.moves(i % 2 == 0 ? 1 : 0);
        }
        due(11, "count(10)", t.count(10), 10);
        for (int i = 9; i >= 0; i--) {
            due(11, "undo()", t.undo(), i);
        }
        due(11, "undo()", t.undo(), STATE);
        due(11, "count(6)", t.count(6), 18);
        due(11, "count(5)", t.count(5), 0);
        TorchPlate u = told(NESTED);
        u.burns(1);
        u.follows();
        u.burns(7);
        u.moves(4);
        u.keep(0);
        u.sees(0, 1, 1);
        due(11, "undo(): acts that were refused don't count", u.undo(), 1);
        due(11, "count(6)", u.count(6), 9);
        due(11, "count(5)", u.count(5), 1);
        due(11, "undo()", u.undo(), 0);
        due(11, "count(6)", u.count(6), 0);
        due(11, "count(4)", u.count(4), 7);
        due(11, "corner(1, 3)", u.corner(1, 3), NONE);
        due(11, "undo()", u.undo(), STATE);
        due(11, "count(8)", u.count(8), 1);
    }

    private static void pieces() {
        TorchPlate t = told(SEAMS);
        int[][] pieces = {{7, 15, 15, 5, 0}, {8, 80, 5, 2, 0}, {48, 160, 10, 3, 0}};
        for (int p = 0; p < 3; p++) {
            for (int what = 0; what < 5; what++) {
                due(12, "piece(" + p + ", " + what + ")", t.piece(p, what), pieces[p][what]);
            }
        }
        due(12, "piece(3, 0)", t.piece(3, 0), BAD);
        due(12, "piece(-1, 0)", t.piece(-1, 0), BAD);
        due(12, "piece(0, 5)", t.piece(0, 5), BAD);
        due(12, "piece(0, -1)", t.piece(0, -1), BAD);
        TorchPlate n = told(NESTED);
        due(12, "piece(0, 4)", n.piece(0, 4), 2);
        due(12, "piece(1, 4)", n.piece(1, 4), 0);
        n.burns(1);
        due(12, "piece(0, 0)", n.piece(0, 0), 14);
        due(12, "piece(0, 1)", n.piece(0, 1), 3);
        due(12, "piece(0, 3)", n.piece(0, 3), 4);
        n.undo();
        due(12, "piece(0, 0) after undo", n.piece(0, 0), 15);
        TorchPlate c = told(CROSSED);
        due(12, "crossed piece(0, 4)", c.piece(0, 4), 2);
        due(12, "crossed piece(1, 4)", c.piece(1, 4), 1);
    }

    private static void links() {
        TorchPlate t = told(SEAMS);
        int[] partners = {1, 0, 3, 2, 6, 7, 4, 5, NONE};
        for (int k = 0; k < 9; k++) {
            due(13, "link(" + k + ")", t.link(k), partners[k]);
        }
        due(13, "link(9)", t.link(9), BAD);
        due(13, "link(-1)", t.link(-1), BAD);
        // A star whose ends lie by twos far apart: the lowest one is not with the next one.
        TorchPlate s = told("k0 0;k20 0;k0 1;k20 1;k10 10;s0 4;s1 4;s2 4;s3 4;");
        int[] crosswise = {2, 3, 0, 1, NONE};
        for (int k = 0; k < 5; k++) {
            due(13, "crosswise link(" + k + ")", s.link(k), crosswise[k]);
        }
        s.burns(4);
        due(13, "link(0), no cut there", s.link(0), NONE);
        due(13, "link(4), an odd number now", s.link(4) >= 0 ? 1 : 0, 1);
    }

    private static void walk(String of, TorchPlate t, int p, int[] to, int[] byCut) {
        for (int k = 0; k < to.length; k++) {
            due(14, of + " round(" + p + ", " + k + ", 0)", t.round(p, k, 0), to[k]);
            due(14, of + " round(" + p + ", " + k + ", 1)", t.round(p, k, 1), byCut[k]);
        }
        due(14, of + " end", t.round(p, to.length, 0), NONE);
        due(14, of + " end", t.round(p, to.length, 1), NONE);
        due(14, of + " steps", t.piece(p, 3), to.length);
    }

    private static void rounds() {
        TorchPlate t = told(SEAMS);
        walk("star", t, 0, new int[] {1, 0, 2, 3, 0}, new int[] {1, 0, 1, 0, 1});
        walk("single", t, 1, new int[] {6, 4}, new int[] {1, 0});
        walk("bent", t, 2, new int[] {8, 7, 5}, new int[] {1, 1, 0});
        due(14, "round(3, 0, 0)", t.round(3, 0, 0), BAD);
        due(14, "round(-1, 0, 0)", t.round(-1, 0, 0), BAD);
        due(14, "round(0, -1, 0)", t.round(0, -1, 0), BAD);
        due(14, "round(0, 0, 2)", t.round(0, 0, 2), BAD);
        due(14, "round(0, 0, -1)", t.round(0, 0, -1), BAD);
        due(14, "round(0, 99, 2)", t.round(0, 99, 2), BAD);
        due(14, "round(0, MAX, 0)", t.round(0, Integer.MAX_VALUE, 0), NONE);
        t.moves(8);
        walk("bent, from where the torch is", t, 2, new int[] {5, 7, 8}, new int[] {1, 0, 1});
        // To the lowest corner would lead astray: what is left must hang together.
        TorchPlate e = told("k0 0;k4 0;k0 4;k9 9;k9 5;p0 1 2;p2 3 4;");
        walk("eight", e, 0, new int[] {1, 2, 3, 4, 2, 0}, new int[] {1, 1, 1, 1, 1, 1});
    }

    private static void tours() {
        TorchPlate t = told(NESTED);
        due(15, "tour(0)", t.tour(0), 1);
        due(15, "tour(1)", t.tour(1), 0);
        due(15, "tour(2)", t.tour(2), NONE);
        due(15, "tour(-1)", t.tour(-1), 4);
        due(15, "tour(-2)", t.tour(-2), BAD);
        due(15, "tour(MIN)", t.tour(Integer.MIN_VALUE), BAD);
        due(15, "tour(MAX)", t.tour(Integer.MAX_VALUE), NONE);
        TorchPlate c = told(CROSSED);
        due(15, "crossed tour(0)", c.tour(0), NONE);
        due(15, "crossed tour(-1)", c.tour(-1), NONE);
        due(15, "crossed tour(-2)", c.tour(-2), BAD);
        TorchPlate s = told(SEAMS);
        // From 0: piece 0 there (0), then 4 at (0, 5) (5), 5 at (10, 5) (10); links 15, 5, 10.
        due(15, "seams tour(0)", s.tour(0), 0);
        due(15, "seams tour(1)", s.tour(1), 1);
        due(15, "seams tour(2)", s.tour(2), 2);
        due(15, "seams tour(-1)", s.tour(-1), 45);
        // The nearest piece first would be dearer: torch at 10, pieces at 9, 12, 20 of one line.
        TorchPlate l = told("k10 0;k9 0;k9 1;k12 0;k12 1;k20 0;k20 1;s1 2;s3 4;s5 6;");
        due(15, "line tour(0)", l.tour(0), 0);
        due(15, "line tour(1)", l.tour(1), 1);
        due(15, "line tour(-1)", l.tour(-1), 15);
        l.moves(5);
        due(15, "line tour(0) from the end", l.tour(0), 2);
        due(15, "line tour(1) from the end", l.tour(1), 1);
        due(15, "line tour(2) from the end", l.tour(2), 0);
        TorchPlate e = told("k10 0;k9 0;k9 1;k11 0;k11 1;s3 4;s1 2;");
        due(15, "equal tours: the first", e.tour(0), 0);
    }

    private static void seeing() {
        TorchPlate t = told(PATH);
        due(18, "unseen()", t.unseen(), 15);
        due(16, "sees(5, 0, 0)", t.sees(5, 0, 0), BAD);
        due(16, "sees(0, 5, 0)", t.sees(0, 5, 0), BAD);
        due(16, "sees(-1, 0, 0)", t.sees(-1, 0, 0), BAD);
        due(16, "sees(0, -1, 0)", t.sees(0, -1, 0), BAD);
        due(16, "sees(0, 1, 2)", t.sees(0, 1, 2), BAD);
        due(16, "sees(0, 1, -1)", t.sees(0, 1, -1), BAD);
        due(16, "sees(3, 0, 0)", t.sees(3, 0, 0), 1);
        due(18, "unseen()", t.unseen(), 7);
        due(16, "sees(0, 1, 1)", t.sees(0, 1, 1), 2);
        due(18, "unseen()", t.unseen(), 6);
        due(16, "sees(2, 2, 1)", t.sees(2, 2, 1), 3);
        due(18, "unseen()", t.unseen(), 6);
        due(16, "sees(2, 2, 0)", t.sees(2, 2, 0), 4);
        due(18, "unseen()", t.unseen(), 0);
        due(16, "sees(0, 1, 1)", t.sees(0, 1, 1), 5);
        due(16, "sees(0, 1, 1)", t.sees(0, 1, 1), 6);
        due(16, "sees(0, 1, 1)", t.sees(0, 1, 1), FULL);
        due(16, "sees(9, 1, 1)", t.sees(9, 1, 1), BAD);
        due(16, "count(8)", t.count(8), 6);
        due(17, "forget()", t.forget(), 6);
        due(17, "forget()", t.forget(), 0);
        due(17, "unseen()", t.unseen(), 15);
        due(16, "sees(1, 3, 0)", t.sees(1, 3, 0), 1);
        due(18, "unseen()", t.unseen(), 6);
        t.burns(1);
        due(18, "unseen(), a cut less", t.unseen(), 6);
        t.burns(2);
        due(18, "unseen(), one and three no longer hang together", t.unseen(), 12);
        due(16, "count(8)", t.count(8), 1);
        TorchPlate r = told(TRIANGLE);
        r.sees(0, 1, 0);
        due(18, "a ring hangs together still", r.unseen(), 0);
    }

    private static void asking() {
        TorchPlate t = told(PATH);
        due(19, "ask()", t.ask(), 2);
        t.sees(0, 2, 0);
        due(19, "ask()", t.ask(), 1);
        t.sees(0, 1, 1);
        due(18, "unseen()", t.unseen(), 2);
        due(19, "ask(): one can be", t.ask(), NONE);
        t.sees(0, 1, 0);
        due(19, "ask(): none can be", t.ask(), NONE);
        TorchPlate r = told(TRIANGLE);
        due(19, "ask(): nothing helps", r.ask(), 1);
        TorchPlate s = told("k0 0;k1 0;k2 0;k3 0;k4 0;s0 4;s1 4;s2 4;s3 4;");
        due(19, "ask() of a star", s.ask(), 1);
        s.sees(0, 1, 1);
        due(19, "ask()", s.ask(), 2);
        s.forget();
        s.sees(0, 4, 1);
        s.sees(1, 4, 1);
        due(19, "ask()", s.ask(), 2);
        TorchPlate p = told("k0 0;k1 0;k2 0;k3 0;s0 1;s2 3;");
        due(19, "ask() of two pieces", p.ask(), 1);
        p.moves(2);
        p.burns(3);
        due(19, "ask(): one is left", p.ask(), NONE);
    }

    private static void images() {
        TorchPlate t = told(TRIANGLE + "h20;");
        due(20, "keep(2)", t.keep(2), BAD);
        due(20, "keep(-1)", t.keep(-1), BAD);
        due(21, "back(2)", t.back(2), BAD);
        due(21, "back(-1)", t.back(-1), BAD);
        due(21, "back(0)", t.back(0), STATE);
        t.burns(1);
        due(20, "keep(0)", t.keep(0), 4);
        due(21, "back(1)", t.back(1), STATE);
        t.sees(0, 1, 1);
        t.burns(2);
        due(20, "keep(1)", t.keep(1), 12);
        t.moves(0);
        due(21, "back(0)", t.back(0), 4);
        due(21, "count(5)", t.count(5), 1);
        due(21, "count(4)", t.count(4), 2);
        due(21, "count(6)", t.count(6), 4);
        due(21, "count(7)", t.count(7), 1);
        due(21, "piece(0, 0)", t.piece(0, 0), 6);
        due(21, "corner(2, 3)", t.corner(2, 3), NONE);
        due(21, "corner(1, 3)", t.corner(1, 3), 4);
        due(21, "count(10)", t.count(10), 0);
        due(21, "undo()", t.undo(), STATE);
        due(21, "count(8)", t.count(8), 1);
        due(21, "burns(2): a cut has just ended", t.burns(2), 12);
        t.moves(1);
        due(20, "keep(0) anew", t.keep(0), 20);
        due(20, "count(10)", t.count(10), 2);
        due(21, "back(1)", t.back(1), 12);
        due(21, "back(0)", t.back(0), 20);
        due(21, "count(5)", t.count(5), 1);
        TorchPlate u = told(TRIANGLE + "h20;");
        u.burns(1);
        u.moves(2);
        u.moves(1);
        u.keep(0);
        u.burns(2);
        u.back(0);
        due(21, "burns(2): no cut has just ended", u.burns(2), 32);
    }

    private static void counting() {
        TorchPlate t = told(NESTED);
        type(t, "h1");
        t.sees(0, 0, 1);
        t.burns(1);
        t.moves(4);
        int[] counts = {7, 7, 2, 20, 6, 4, 18, 2, 1, 2, 2};
        for (int what = 0; what < counts.length; what++) {
            due(22, "count(" + what + ")", t.count(what), counts[what]);
        }
        due(22, "count(11)", t.count(11), BAD);
        due(22, "count(-1)", t.count(-1), BAD);
    }
}
