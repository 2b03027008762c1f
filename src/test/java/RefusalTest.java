/**
 * "Refused, and nothing changes, the first of these: BAD, STATE, FULL": every refused call, in many plights.
 * Behind each one the object must be like one on which it was not made, whatever is called then.
 */
public final class RefusalTest {
    private static final int BAD = Run.BAD, STATE = Run.STATE, FULL = Run.FULL, NONE = Run.NONE;
    private static final String NESTED = "h20;k0 0;k9 0;k9 9;k0 9;k1 1;k8 1;k8 8;p0 1 2 3;p4 5 6;";
    private static final String LINE = "h9;k0 0;k1 0;k2 0;k3 0;k4 0;s0 1;s1 2;s2 3;s3 4;";
    private static final String CROSSED = "k6 5;k0 0;k0 10;k4 5;k10 0;k10 10;p0 1 2;p3 4 5;";
    private static final String HANGING = "k0 0;k8 0;k4 9;k4 2;k4 3;p0 1 2;p3 4 0;";
    /** Numbers that are far off, those among them that would look small again when bits are cut off. */
    private static final int[] FAR = {
        -2, -8, NONE, -10, 14, 15, 16, 31, 32, 33, 63, 64, 255, 256, 257, 65536, 1 << 30, -(1 << 30), 1 << 31,
        Integer.MAX_VALUE, Integer.MAX_VALUE - 1, Integer.MIN_VALUE + 1};

    public static void main(String[] args) {
        Run.says("Refused, and nothing changes: BAD (a number is not as told, or there is no such thing)");
        Twins.Tale[] plights = {
            run -> { },
            run -> run.types("h5;k1 1;"),
            run -> run.tells("h5;"),
            run -> run.tells("k0 0;"),
            RefusalTest::fresh,
            RefusalTest::amid,
            RefusalTest::undone,
            RefusalTest::full,
            RefusalTest::nothingLeft,
            RefusalTest::noTour,
            RefusalTest::mayNotFall};
        for (Twins.Tale plight : plights) {
            badNumbers(plight);
            badKinds(plight);
        }
        states();
        fulls();
        faults();
        firstOfSeveral();
        Run.end("refused calls");
    }

    private static void fresh(Run t) {
        t.tells(LINE);
    }

    private static void amid(Run t) {
        t.tells(NESTED);
        t.follows();
        t.keep(0);
        t.burns(5);
        t.moves(1);
        t.keep(1);
        t.burns(2);
        t.sees(0, 1, 1);
        t.sees(2, 3, 1);
        t.types("k1 1;");
    }

    private static void undone(Run t) {
        t.tells(LINE);
        t.burns(1);
        t.burns(2);
        t.moves(0);
        t.undo();
        t.undo();
    }

    /** As much as there may be of letters, of what is seen and of acts. */
    private static void full(Run t) {
        t.tells(LINE);
        for (int i = 0; i < 12; i++) {
            t.moves(i % 2 == 0 ? 4 : 3);
            if (i == 5) {
                t.burns(4);
            }
        }
        t.keep(0);
        t.keep(1);
        for (int i = 0; i < 6; i++) {
            t.sees(0, i % 3, 1);
        }
        t.types("k5 5;k6 6;" + " ".repeat(100));
    }

    private static void nothingLeft(Run t) {
        t.tells("h3;k0 0;k1 0;k2 0;s0 1;s1 2;");
        t.burns(1);
        t.keep(1);
        t.burns(2);
        t.types("x");
    }

    private static void noTour(Run t) {
        t.tells(CROSSED);
        t.burns(1);
        t.sees(0, 1, 0);
    }

    private static void mayNotFall(Run t) {
        t.tells(HANGING);
        t.burns(1);
        t.burns(2);
        t.moves(4);
        t.burns(0);
        t.keep(0);
    }

    private static int of(Twins.Tale plight, Run.Act look) {
        Run run = new Run();
        plight.on(run);
        return look.on(run);
    }

    private static void badNumbers(Twins.Tale plight) {
        int corners = of(plight, run -> run.count(0));
        int cuts = of(plight, run -> run.count(1));
        int parts = of(plight, run -> run.count(2));
        int pieces = of(plight, run -> run.count(7));
        int torch = of(plight, run -> run.count(5));
        badCorner(plight, -1);
        badCorner(plight, corners);
        badCut(plight, -1);
        badCut(plight, cuts);
        badPart(plight, -1);
        badPart(plight, parts);
        badPiece(plight, -1);
        badPiece(plight, pieces);
        badImage(plight, -1);
        badImage(plight, 2);
        for (int far : FAR) {
            badCorner(plight, far);
            badCut(plight, far);
            badPart(plight, far);
            badPiece(plight, far);
            badImage(plight, far);
        }
        Twins.refused(BAD, plight, run -> run.burns(torch));
        Twins.refused(BAD, plight, run -> run.moves(torch));
        Twins.refused(BAD, plight, run -> run.type(-1));
        Twins.refused(BAD, plight, run -> run.type(256));
        Twins.refused(BAD, plight, run -> run.type(Integer.MIN_VALUE));
        Twins.refused(BAD, plight, run -> run.type(Integer.MAX_VALUE));
        Twins.refused(BAD, plight, run -> run.type(256 + 'k'));
        Twins.refused(BAD, plight, run -> run.tour(-2));
        Twins.refused(BAD, plight, run -> run.tour(NONE));
        Twins.refused(BAD, plight, run -> run.tour(Integer.MIN_VALUE));
    }

    private static void badCorner(Twins.Tale plight, int k) {
        Twins.refused(BAD, plight, run -> run.corner(k, 0));
        Twins.refused(BAD, plight, run -> run.corner(k, 3));
        Twins.refused(BAD, plight, run -> run.corner(k, 4));
        Twins.refused(BAD, plight, run -> run.burns(k));
        Twins.refused(BAD, plight, run -> run.moves(k));
        Twins.refused(BAD, plight, run -> run.link(k));
        Twins.refused(BAD, plight, run -> run.sees(k, 0, 0));
        Twins.refused(BAD, plight, run -> run.sees(0, k, 1));
        Twins.refused(BAD, plight, run -> run.sees(k, k, 1));
        Twins.refused(BAD, plight, run -> run.sees(k, 0, k));
    }

    private static void badCut(Twins.Tale plight, int c) {
        for (int what = -1; what <= 5; what += 2) {
            int of = what;
            Twins.refused(BAD, plight, run -> run.cut(c, of));
        }
    }

    private static void badPart(Twins.Tale plight, int p) {
        for (int what = -1; what <= 3; what++) {
            int of = what;
            Twins.refused(BAD, plight, run -> run.part(p, of));
        }
    }

    private static void badPiece(Twins.Tale plight, int p) {
        for (int what = -1; what <= 5; what += 2) {
            int of = what;
            Twins.refused(BAD, plight, run -> run.piece(p, of));
        }
        Twins.refused(BAD, plight, run -> run.round(p, 0, 0));
        Twins.refused(BAD, plight, run -> run.round(p, 0, 1));
        Twins.refused(BAD, plight, run -> run.round(p, 99, 0));
        Twins.refused(BAD, plight, run -> run.round(p, -1, 2));
    }

    private static void badImage(Twins.Tale plight, int image) {
        Twins.refused(BAD, plight, run -> run.keep(image));
        Twins.refused(BAD, plight, run -> run.back(image));
    }

    /** What is asked of a thing, and whether together, be the thing there or not. */
    private static void badKinds(Twins.Tale plight) {
        for (int n = 0; n <= 1; n++) {
            int of = n;
            badKind(plight, -1, of);
            for (int far : FAR) {
                badKind(plight, far, of);
            }
            Twins.refused(BAD, plight, run -> run.corner(of, 4));
            Twins.refused(BAD, plight, run -> run.cut(of, 5));
            Twins.refused(BAD, plight, run -> run.part(of, 3));
            Twins.refused(BAD, plight, run -> run.piece(of, 5));
            Twins.refused(BAD, plight, run -> run.round(of, 0, 2));
            Twins.refused(BAD, plight, run -> run.round(of, Integer.MAX_VALUE, 2));
            Twins.refused(BAD, plight, run -> run.round(of, -1, 0));
            Twins.refused(BAD, plight, run -> run.round(of, Integer.MIN_VALUE, 1));
            Twins.refused(BAD, plight, run -> run.sees(of, of, 2));
        }
        Twins.refused(BAD, plight, run -> run.count(-1));
        Twins.refused(BAD, plight, run -> run.count(11));
    }

    private static void badKind(Twins.Tale plight, int what, int of) {
        Twins.refused(BAD, plight, run -> run.corner(of, what));
        Twins.refused(BAD, plight, run -> run.cut(of, what));
        Twins.refused(BAD, plight, run -> run.part(of, what));
        Twins.refused(BAD, plight, run -> run.piece(of, what));
        Twins.refused(BAD, plight, run -> run.round(of, 0, what));
        Twins.refused(BAD, plight, run -> run.sees(of, of, what));
        Twins.refused(BAD, plight, run -> run.count(what));
    }

    private static void states() {
        Run.says("STATE: no such CUT is LEFT, it may not be");
        Twins.refused(STATE, RefusalTest::fresh, run -> run.burns(2));
        Twins.refused(STATE, RefusalTest::fresh, run -> run.burns(4));
        Twins.refused(STATE, RefusalTest::undone, run -> run.burns(0));
        Twins.refused(STATE, RefusalTest::undone, run -> run.burns(3));
        Twins.refused(STATE, RefusalTest::full, run -> run.burns(4));
        Twins.refused(STATE, RefusalTest::full, run -> run.burns(0));
        Twins.refused(STATE, RefusalTest::nothingLeft, run -> run.burns(1));
        Twins.refused(STATE, RefusalTest::nothingLeft, run -> run.burns(0));
        Twins.refused(STATE, RefusalTest::mayNotFall, run -> run.burns(2));
        Run.says("follows() STATE: no CUT is LEFT, no TOUR, it may not be");
        Twins.refused(STATE, run -> { }, run -> run.follows());
        Twins.refused(STATE, run -> run.tells("k0 0;k1 1;"), run -> run.follows());
        Twins.refused(STATE, RefusalTest::nothingLeft, run -> run.follows());
        Twins.refused(STATE, RefusalTest::noTour, run -> run.follows());
        Twins.refused(STATE, RefusalTest::mayNotFall, run -> run.follows());
        Run.says("undo() STATE: none");
        Twins.refused(STATE, run -> { }, run -> run.undo());
        Twins.refused(STATE, RefusalTest::fresh, run -> run.undo());
        Twins.Tale allUndone = run -> {
            full(run);
            for (int i = 0; i < 10; i++) {
                run.undo();
            }
        };
        Twins.refused(STATE, allUndone, run -> run.undo());
        Twins.Tale wentBack = run -> {
            amid(run);
            run.back(1);
        };
        Twins.refused(STATE, wentBack, run -> run.undo());
        Run.says("back() STATE: none was kept");
        Twins.refused(STATE, run -> { }, run -> run.back(0));
        Twins.refused(STATE, run -> { }, run -> run.back(1));
        Twins.refused(STATE, RefusalTest::undone, run -> run.back(0));
        Twins.refused(STATE, RefusalTest::undone, run -> run.back(1));
        Twins.refused(STATE, RefusalTest::nothingLeft, run -> run.back(0));
        Twins.refused(STATE, RefusalTest::mayNotFall, run -> run.back(1));
    }

    private static void fulls() {
        Run.says("type() FULL; sees() FULL");
        for (int letter : new int[] {0, ' ', ';', 'k', 255}) {
            Twins.refused(FULL, RefusalTest::full, run -> run.type(letter));
        }
        Twins.refused(FULL, RefusalTest::full, run -> run.sees(0, 1, 1));
        Twins.refused(FULL, RefusalTest::full, run -> run.sees(0, 1, 0));
        Twins.refused(FULL, RefusalTest::full, run -> run.sees(4, 4, 0));
    }

    private static void faults() {
        Run.says("plate() -10 less FAULT: nothing changes");
        Twins.refused(-10, RefusalTest::nothingLeft, run -> run.plate());
        Twins.refused(-18, run -> run.types("h5;k1 1;x"), run -> run.plate());
        Twins.Tale long1 = run -> run.types("k5 5;" + " ".repeat(104) + "k");
        Twins.refused(-120, long1, run -> run.plate());
        Twins.Tale again = run -> {
            amid(run);
            run.types("k2 2;k1 1;");
        };
        Twins.refused(-10 - 13, again, run -> run.plate());
    }

    private static void firstOfSeveral() {
        Run.says("the first of these: BAD, STATE, FULL");
        // BAD ahead of FULL.
        Twins.refused(BAD, RefusalTest::full, run -> run.type(-1));
        Twins.refused(BAD, RefusalTest::full, run -> run.type(256));
        Twins.refused(BAD, RefusalTest::full, run -> run.sees(5, 0, 0));
        Twins.refused(BAD, RefusalTest::full, run -> run.sees(0, -1, 0));
        Twins.refused(BAD, RefusalTest::full, run -> run.sees(0, 0, 2));
        // BAD ahead of STATE: where no such CUT is LEFT either, and where no image was kept.
        Twins.refused(BAD, RefusalTest::nothingLeft, run -> run.burns(2));
        Twins.refused(BAD, RefusalTest::nothingLeft, run -> run.burns(3));
        Twins.refused(BAD, RefusalTest::mayNotFall, run -> run.burns(0));
        Twins.refused(BAD, RefusalTest::mayNotFall, run -> run.burns(5));
        Twins.refused(BAD, run -> { }, run -> run.burns(0));
        Twins.refused(BAD, RefusalTest::fresh, run -> run.back(2));
        Twins.refused(BAD, RefusalTest::fresh, run -> run.back(-1));
        // BAD ahead of NONE.
        Twins.refused(BAD, RefusalTest::fresh, run -> run.round(0, 99, 2));
        Twins.refused(BAD, RefusalTest::fresh, run -> run.round(1, 99, 0));
        Twins.refused(BAD, RefusalTest::noTour, run -> run.tour(-2));
    }
}
