/** The bounds of what is told of the plate, of what is done on it, and of images: Terms 2, promises 1, 5 to 11, 20 to 22. */
public final class ActEdgesTest {
    private static final int BAD = Run.BAD, STATE = Run.STATE, NONE = Run.NONE;
    private static final String SQUARE_WITH_TRIANGLE = "k0 0;k9 0;k9 9;k0 9;k1 1;k8 1;k8 8;p0 1 2 3;p4 5 6;";
    /** Each part has its first CORNER in all those that are told ahead of it; the CUT of 1 and 2 is of all. */
    private static final String FOUR_DEEP =
            "k10 20;k0 0;k20 0;k10 15;k10 10;k10 5;p0 1 2;p3 1 2;p4 1 2;p5 1 2;";
    private static final String STAR = "k0 0;k1 0;k2 0;k3 0;k4 0;k5 0;k6 0;k7 0;k9 9;"
            + "s0 8;s1 8;s2 8;s3 8;s4 8;s5 8;s6 8;s7 8;";
    private static final String LINE = "k0 0;k1 0;k2 0;k3 0;k4 0;s0 1;s1 2;s2 3;s3 4;";

    public static void main(String[] args) {
        nothingThere();
        atFirst();
        oneCorner();
        ways();
        cornersOfCuts();
        within();
        withinEverywhere();
        withinItself();
        noSuchCut();
        heatAtBegin();
        heatAtEnd();
        heatAtBoth();
        goesOn();
        comesBetween();
        zeroHeat();
        outerMayNotFall();
        outerMayFallWithInner();
        deepFalls();
        moving();
        tenUndone();
        refusedIsNotUndone();
        undoneToTheFirst();
        imagesKeep();
        imagesKeepNothingElse();
        imagesWithoutCorners();
        Run.end("edges of acts");
    }

    private static void nothingThere() {
        Run.says("As told; no CORNERS. .. without CORNERS there is no TORCH");
        Run[] runs = {new Run(), Run.told(""), Run.told("   "), Run.told("h7;"), Run.told(SQUARE_WITH_TRIANGLE)};
        runs[4].burns(1);
        runs[4].keep(0);
        runs[4].sees(0, 1, 1);
        runs[4].tells("");
        for (int i = 0; i < runs.length; i++) {
            Run t = runs[i];
            t.dueCounts(0, 0, 0, i == 3 ? 7 : 0, 0, NONE, 0, 0, 0, 0, 0);
            for (int n = -1; n <= 1; n++) {
                t.due(t.corner(n, 0), BAD);
                t.due(t.cut(n, 0), BAD);
                t.due(t.part(n, 0), BAD);
                t.due(t.burns(n), BAD);
                t.due(t.moves(n), BAD);
                t.due(t.piece(n, 0), BAD);
                t.due(t.link(n), BAD);
                t.due(t.round(n, 0, 0), BAD);
                t.due(t.sees(n, 0, 1), BAD);
            }
            t.due(t.burns(NONE), BAD);
            t.due(t.moves(NONE), BAD);
            t.due(t.follows(), STATE);
            t.due(t.undo(), STATE);
            t.due(t.tour(-1), 0);
            t.due(t.tour(0), NONE);
            t.due(t.forget(), 0);
            t.due(t.unseen(), 0);
            t.due(t.ask(), NONE);
            t.due(t.back(0), STATE);
            t.due(t.back(1), STATE);
            t.dueCounts(0, 0, 0, i == 3 ? 7 : 0, 0, NONE, 0, 0, 0, 0, 0);
        }
    }

    private static void atFirst() {
        Run.says("THE TORCH is at CORNER 0, TIME is 0 at first, all CUTS are LEFT");
        Run t = Run.told(STAR);
        t.dueCounts(9, 8, 0, 0, 8, 0, 0, 1, 0, 0, 0);
        for (int c = 0; c < 8; c++) {
            t.due(t.cut(c, 2), 1);
        }
        for (int k = 0; k < 9; k++) {
            t.due(t.corner(k, 3), NONE);
        }
        t.due(t.moves(5), 5);
        t.tells("k3 3;k4 4;");
        t.dueCounts(2, 0, 0, 0, 0, 0, 0, 0, 0, 0, 0);
    }

    private static void oneCorner() {
        Run.says("one CORNER alone: there is no other one");
        Run t = Run.told("k20 20;");
        t.dueCounts(1, 0, 0, 0, 0, 0, 0, 0, 0, 0, 0);
        t.due(t.burns(0), BAD);
        t.due(t.moves(0), BAD);
        t.due(t.burns(1), BAD);
        t.due(t.moves(1), BAD);
        t.due(t.follows(), STATE);
        t.due(t.link(0), NONE);
        t.due(t.corner(0, 2), 0);
        t.due(t.corner(0, 3), NONE);
        t.due(t.sees(0, 0, 1), 1);
        t.due(t.unseen(), 0);
        t.due(t.ask(), NONE);
        t.due(t.tour(-1), 0);
        t.due(t.tour(0), NONE);
    }

    private static void ways() {
        Run.says("WAY of two CORNERS: what their X are apart and what their Y are apart");
        Run t = Run.told("k0 0;k20 20;k20 0;k0 20;k1 0;k0 1;s0 1;s2 3;s0 4;s0 5;s4 5;");
        int[] due = {40, 1, 1, 40, 2};
        for (int c = 0; c < due.length; c++) {
            t.due(t.cut(c, 4), due[c]);
        }
        t.due(t.moves(1), 40);
        t.due(t.moves(0), 80);
        t.due(t.moves(4), 81);
        t.due(t.moves(5), 83);
        t.due(t.moves(2), 104);
        t.due(t.moves(3), 144);
    }

    private static void cornersOfCuts() {
        Run.says("how many LEFT CUTS end there; when it was BURNT at last (NONE)");
        Run t = Run.told(STAR + "h1;");
        t.due(t.corner(8, 2), 8);
        t.due(t.corner(0, 2), 1);
        t.due(t.burns(8), 18);
        t.due(t.corner(8, 2), 7);
        t.due(t.corner(0, 2), 0);
        // At TIME 0, which is not NONE.
        t.due(t.corner(0, 3), 0);
        t.due(t.corner(8, 3), 18);
        t.due(t.corner(1, 3), NONE);
        t.due(t.cut(0, 2), 0);
        t.due(t.cut(0, 3), NONE);
        t.due(t.cut(1, 3), 0);
        t.due(t.cut(7, 3), 0);
        Run alone = Run.told("k0 0;k1 0;k2 0;s0 1;");
        alone.due(alone.corner(2, 2), 0);
        alone.due(alone.link(2), NONE);
    }

    /** Whether the part 4 5 6 is WITHIN the ring of the square's CORNERS, by the place of CORNER 4. */
    private static void inRing(String ring, int x, int y, int due) {
        Run t = Run.told("k2 2;k12 2;k12 12;k2 12;k" + x + " " + y + ";k20 19;k20 20;p" + ring + ";p4 5 6;");
        t.due(t.part(1, 2), due);
    }

    private static void within() {
        Run.says("WITHIN: its first CORNER lies on no CUT of its ring, and the ring goes round it");
        for (int at = 1; at <= 13; at++) {
            int inside = at > 2 && at < 12 ? 1 : 0;
            for (String ring : new String[] {"0 1 2 3", "3 2 1 0", "2 3 0 1"}) {
                inRing(ring, 7, at, inside);
                inRing(ring, at, 7, inside);
            }
        }
        // Places on the line of a CUT, but beyond its ends, are on no CUT.
        inRing("0 1 2 3", 1, 2, 0);
        inRing("0 1 2 3", 13, 12, 0);
        inRing("0 1 2 3", 2, 13, 0);
        // On a slant CUT, and beside it.
        inRing("0 1 2", 7, 7, 0);
        inRing("0 1 2", 8, 7, 1);
        inRing("0 1 2", 7, 8, 0);
        Run.says("seen from there, turn round not 0 times");
        // A ring that crosses itself: round its two wings, once each way, and not between them.
        inRing("0 1 3 2", 7, 3, 1);
        inRing("0 1 3 2", 7, 11, 1);
        inRing("0 1 3 2", 3, 7, 0);
        inRing("0 1 3 2", 11, 7, 0);
        // A star goes round its middle twice.
        Run star = Run.told("k10 18;k4 2;k18 12;k2 12;k16 2;k10 9;k11 9;k10 10;p0 1 2 3 4;p5 6 7;");
        star.due(star.part(1, 2), 1);
    }

    /** Seen from a place, how far a ring's CORNERS turn in all; 0 where the place is on one of its CUTS. */
    private static long turns(int[] ringX, int[] ringY, int x, int y) {
        double turned = 0;
        for (int i = 0; i < ringX.length; i++) {
            int j = (i + 1) % ringX.length;
            int ax = ringX[i] - x;
            int ay = ringY[i] - y;
            int bx = ringX[j] - x;
            int by = ringY[j] - y;
            if (ax * by == ay * bx && ax * bx + ay * by <= 0) {
                return 0;
            }
            turned += Math.atan2(ax * by - ay * bx, ax * bx + ay * by);
        }
        return Math.round(turned / (2 * Math.PI));
    }

    private static void withinEverywhere() {
        Run.says("WITHIN, from each place of the plate: beside, on and ahead of each CUT");
        int[][][] rings = {
            {{0, 20, 7}, {0, 3, 20}}, {{3, 20, 11}, {19, 10, 0}}, {{1, 19, 19, 1}, {1, 1, 18, 18}},
            {{2, 10, 18, 10}, {10, 2, 10, 18}}, {{0, 20, 10, 10}, {0, 0, 20, 5}}, {{1, 18, 2, 19}, {2, 17, 18, 3}},
            {{10, 4, 18, 2, 16}, {18, 2, 12, 12, 2}}, {{0, 8, 8, 16, 16}, {0, 0, 8, 8, 16}},
            {{5, 15, 10, 3, 10}, {5, 5, 5, 0, 12}}};
        for (int[][] ring : rings) {
            StringBuilder corners = new StringBuilder();
            StringBuilder part = new StringBuilder("p");
            for (int i = 0; i < ring[0].length; i++) {
                corners.append('k').append(ring[0][i]).append(' ').append(ring[1][i]).append(';');
                part.append(i).append(' ');
            }
            for (int place = 0; place < 21 * 21; place++) {
                withinAt(corners.toString(), part.toString(), ring, place / 21, place % 21);
            }
        }
    }

    private static void withinAt(String corners, String part, int[][] ring, int x, int y) {
        for (int i = 0; i < ring[0].length; i++) {
            if (ring[0][i] == x && ring[1][i] == y) {
                return;
            }
        }
        // The inner part's other CORNERS are those of the ring.
        Run t = Run.told(corners + "k" + x + " " + y + ";" + part + ";p" + ring[0].length + " 0 1;");
        t.due(t.part(1, 2), turns(ring[0], ring[1], x, y) == 0 ? 0 : 1);
    }

    private static void withinItself() {
        Run.says("a PART is WITHIN another one, if its first CORNER is none of the other's");
        Run twice = Run.told("k0 0;k9 0;k0 9;p0 1 2;p0 1 2;p2 1 0;");
        for (int p = 0; p < 3; p++) {
            twice.due(twice.part(p, 2), 0);
        }
        Run shared = Run.told("k0 0;k9 0;k9 9;k0 9;k4 3;k5 4;p0 1 2 3;p0 4 5;p4 5 0;");
        shared.due(shared.part(1, 2), 0);
        shared.due(shared.part(2, 2), 1);
        Run deep = Run.told(FOUR_DEEP);
        int[] due = {0, 1, 3, 7};
        for (int p = 0; p < 4; p++) {
            deep.due(deep.part(p, 2), due[p]);
        }
        // Each one WITHIN the other.
        Run crossed = Run.told("k6 5;k0 0;k0 10;k4 5;k10 0;k10 10;p0 1 2;p3 4 5;");
        crossed.due(crossed.part(0, 2), 2);
        crossed.due(crossed.part(1, 2), 1);
    }

    private static void noSuchCut() {
        Run.says("BURNT: a LEFT CUT from where THE TORCH is to another CORNER");
        Run t = Run.told(LINE);
        t.due(t.burns(0), BAD);
        t.due(t.burns(5), BAD);
        t.due(t.burns(-1), BAD);
        t.due(t.burns(2), STATE);
        t.due(t.burns(4), STATE);
        t.due(t.burns(1), 1);
        t.due(t.burns(0), STATE);
        t.due(t.burns(1), BAD);
        t.due(t.moves(4), 4);
        t.due(t.burns(3), 5);
        t.due(t.burns(4), STATE);
        t.due(t.burns(2), 6);
        t.due(t.burns(1), 7);
        t.due(t.count(4), 0);
        for (int to = 0; to < 5; to++) {
            t.due(t.burns(to), to == 1 ? BAD : STATE);
        }
        t.due(t.count(10), 5);
        // With as many CUTS as there may be, of which none is between 4 and 5.
        Run most = Run.told("k0 0;k1 0;k2 0;k3 0;k4 0;k5 0;p0 1 2 3 4;p0 2 4 1 3;s0 5;s1 5;s2 5;s3 5;");
        most.due(most.count(1), 14);
        most.due(most.moves(4), 4);
        most.due(most.burns(5), STATE);
        most.due(most.moves(5), 5);
        most.due(most.burns(4), STATE);
        most.due(most.burns(3), 7);
    }

    /** Away from 0 by a CUT of 5, back by a move at 10, then BURNT from 0 by a CUT of 4. */
    private static int fromHot(int heat) {
        Run t = Run.told("h" + heat + ";k0 0;k5 0;k0 4;s0 1;s0 2;");
        t.burns(1);
        t.moves(0);
        int end = t.burns(2);
        t.due(t.corner(0, 3), end - 4);
        t.due(t.corner(2, 3), end);
        t.due(t.count(6), end);
        return end;
    }

    private static void heatAtBegin() {
        Run.says("BURNT at again just HEAT later or more, that from which it goes when it begins");
        int[][] due = {{0, 14}, {1, 14}, {9, 14}, {10, 14}, {11, 15}, {12, 16}, {20, 24}};
        for (int[] one : due) {
            Run t = new Run();
            t.due(fromHot(one[0]), one[1]);
        }
    }

    /** 0 is BURNT at at 0; from 2, which is cool, a CUT of 4 begins at 14 and goes to 0. */
    private static int toHot(int heat) {
        Run t = Run.told("h" + heat + ";k0 0;k5 0;k0 4;s0 1;s0 2;");
        t.burns(1);
        t.moves(2);
        int end = t.burns(0);
        t.due(t.corner(2, 3), end - 4);
        t.due(t.corner(0, 3), end);
        t.due(t.count(6), end);
        return end;
    }

    private static void heatAtEnd() {
        Run.says("and that to which when it ends");
        int[][] due = {{0, 18}, {17, 18}, {18, 18}, {19, 19}, {20, 20}};
        for (int[] one : due) {
            Run t = new Run();
            t.due(toHot(one[0]), one[1]);
        }
    }

    private static void heatAtBoth() {
        Run.says("both that from which it goes when it begins, and that to which when it ends");
        // 0 is BURNT at at 0, 1 at 1, 2 at 3; at 5 the torch is at 0 and 1 is behind it.
        Run from = Run.told("h8;k0 0;k1 0;k1 2;s0 1;s1 2;s0 2;");
        from.due(from.burns(1), 1);
        from.due(from.burns(2), 3);
        from.due(from.moves(0), 6);
        // From 0 not ahead of 8, to 2 not ahead of 11 - 3: both at once.
        from.due(from.burns(2), 11);
        Run later = Run.told("h20;k0 0;k1 0;k1 2;s0 1;s1 2;s0 2;");
        later.due(later.burns(1), 1);
        later.due(later.burns(2), 3);
        later.due(later.moves(0), 6);
        // From 0 not ahead of 20, to 2 not ahead of 23 - 3.
        later.due(later.burns(2), 23);
        Run end = Run.told("h20;k0 0;k9 0;k9 1;s0 1;s1 2;s0 2;");
        end.due(end.burns(1), 9);
        end.due(end.burns(2), 10);
        end.due(end.moves(0), 20);
        // From 0 at 20, to 2 at 30 or later: both just may be.
        end.due(end.burns(2), 30);
        Run wait = Run.told("h20;k0 0;k9 0;k9 1;k8 0;s0 1;s3 2;s0 2;");
        wait.due(wait.burns(1), 9);
        wait.due(wait.moves(3), 10);
        wait.due(wait.burns(2), 12);
        wait.due(wait.moves(0), 22);
        // From 0 as soon as it is there, to 2 at 32.
        wait.due(wait.burns(2), 32);
    }

    private static void goesOn() {
        Run.says("where it goes on just when and where the last CUT ended, and nothing came between, that CORNER does"
                + " not count");
        Run t = Run.told("h20;" + LINE);
        for (int to = 1; to <= 4; to++) {
            t.due(t.burns(to), to);
            t.due(t.corner(to, 3), to);
        }
        Run follows = Run.told("h20;" + LINE);
        for (int to = 1; to <= 4; to++) {
            follows.due(follows.follows(), to);
            follows.due(follows.count(6), to);
        }
        Run.says("refused calls, looks, what is SEEN and IMAGES are nothing that comes between");
        Run u = Run.told("h20;" + LINE);
        u.due(u.burns(1), 1);
        u.due(u.burns(0), STATE);
        u.due(u.burns(1), BAD);
        u.due(u.burns(3), STATE);
        u.due(u.moves(1), BAD);
        u.due(u.back(0), STATE);
        u.due(u.keep(0), 1);
        u.due(u.sees(0, 1, 0), 1);
        u.due(u.ask(), 16 + 2);
        u.due(u.tour(-1), 3);
        u.types("x");
        u.due(u.plate(), -10);
        u.due(u.clear(), 1);
        u.due(u.burns(2), 2);
        // The first CUT has none ahead of it, and nothing is hot.
        Run first = Run.told("h20;" + LINE);
        first.due(first.burns(1), 1);
    }

    private static void comesBetween() {
        Run.says("nothing came between");
        Run t = Run.told("h20;" + LINE);
        t.due(t.burns(1), 1);
        t.due(t.moves(0), 2);
        t.due(t.moves(1), 3);
        t.due(t.burns(2), 22);
        t.due(t.corner(1, 3), 21);
        t.due(t.corner(2, 3), 22);
        t.due(t.burns(3), 23);
        Run.says("whether a CUT has just ended: it is so again behind undo() and back()");
        Run undone = Run.told("h20;" + LINE);
        undone.burns(1);
        undone.moves(0);
        undone.due(undone.undo(), 1);
        undone.due(undone.burns(2), 2);
        Run gone = Run.told("h20;" + LINE);
        gone.burns(1);
        gone.moves(0);
        gone.moves(1);
        gone.burns(2);
        gone.due(gone.undo(), 3);
        gone.due(gone.burns(2), 22);
        Run kept = Run.told("h20;" + LINE);
        kept.burns(1);
        kept.keep(0);
        kept.moves(0);
        kept.moves(1);
        kept.keep(1);
        kept.due(kept.back(0), 1);
        kept.due(kept.burns(2), 2);
        kept.due(kept.back(1), 3);
        kept.due(kept.burns(2), 22);
    }

    private static void zeroHeat() {
        Run.says("HEAT 0: no CORNER is ever too hot");
        Run t = Run.told("k0 0;k1 0;k0 1;p0 1 2;");
        t.due(t.burns(1), 1);
        t.due(t.moves(0), 2);
        t.due(t.burns(2), 3);
        t.due(t.burns(1), 5);
        t.due(t.corner(1, 3), 5);
        t.due(t.corner(2, 3), 3);
        t.due(t.corner(0, 3), 2);
    }

    private static void outerMayNotFall() {
        Run.says("It may not be, if a PART would have none of its CUTS LEFT then, while a PART WITHIN it has one LEFT");
        Run t = Run.told(SQUARE_WITH_TRIANGLE);
        t.burns(1);
        t.burns(2);
        // Two are LEFT: the last but one may be.
        t.due(t.part(0, 1), 2);
        t.due(t.burns(3), 27);
        t.due(t.part(0, 1), 1);
        t.due(t.burns(0), STATE);
        t.due(t.part(0, 1), 1);
        t.due(t.moves(0), 36);
        t.due(t.burns(3), STATE);
        t.moves(4);
        t.burns(5);
        t.burns(6);
        t.due(t.part(1, 1), 1);
        t.moves(3);
        t.due(t.burns(0), STATE);
        t.moves(4);
        // The inner one may fall.
        t.due(t.burns(6) > 0 ? 1 : 0, 1);
        t.due(t.part(1, 1), 0);
        t.moves(3);
        int time = t.count(6);
        t.due(t.burns(0), time + 9);
        t.due(t.count(4), 0);
        // A part beside it, and one without a part in it, may fall.
        Run beside = Run.told("k0 0;k3 0;k0 3;k5 5;k8 5;k5 8;p0 1 2;p3 4 5;");
        beside.due(beside.burns(1), 3);
        beside.due(beside.burns(2), 9);
        beside.due(beside.burns(0), 12);
        // A seam in it is no part.
        Run seam = Run.told("k0 0;k9 0;k0 9;k1 1;k2 2;p0 1 2;s3 4;");
        seam.burns(1);
        seam.burns(2);
        seam.due(seam.burns(0), 36);
    }

    private static void outerMayFallWithInner() {
        Run.says("would have none LEFT then: judged as things are behind that CUT");
        Run t = Run.told(FOUR_DEEP);
        // All but the CUT of 1 and 2, which is the last one of all four at once.
        for (int k : new int[] {0, 3, 4, 5}) {
            if (t.count(5) != k) {
                t.moves(k);
            }
            t.due(t.burns(1) > 0 ? 1 : 0, 1);
            t.moves(k);
            t.due(t.burns(2) > 0 ? 1 : 0, 1);
        }
        t.due(t.count(4), 1);
        int time = t.count(6);
        t.due(t.burns(1), time + 20);
        t.due(t.count(4), 0);
    }

    private static void deepFalls() {
        Run.says("while a PART WITHIN it has one LEFT, whichever of those it is");
        Run t = Run.told(FOUR_DEEP);
        t.moves(1);
        // The shared CUT may go first: each part has others.
        t.due(t.burns(2) > 0 ? 1 : 0, 1);
        t.due(t.burns(0) > 0 ? 1 : 0, 1);
        t.due(t.burns(1), STATE);
        t.moves(5);
        t.due(t.burns(1) > 0 ? 1 : 0, 1);
        t.moves(5);
        t.due(t.burns(2) > 0 ? 1 : 0, 1);
        t.due(t.part(3, 1), 0);
        t.moves(0);
        // 1 and 2 are still within it.
        t.due(t.burns(1), STATE);
        t.moves(3);
        t.burns(1);
        t.moves(3);
        // 2 is still within 1.
        t.due(t.burns(2), STATE);
        t.moves(4);
        t.burns(1);
        t.moves(4);
        t.due(t.burns(2) > 0 ? 1 : 0, 1);
        t.moves(3);
        t.due(t.burns(2) > 0 ? 1 : 0, 1);
        t.moves(0);
        t.due(t.burns(1) > 0 ? 1 : 0, 1);
        t.due(t.count(4), 0);
    }

    private static void moving() {
        Run.says("MOVED: THE TORCH goes to another CORNER: TIME is WAY more");
        Run t = Run.told("h20;" + LINE);
        t.due(t.moves(0), BAD);
        t.due(t.moves(5), BAD);
        t.due(t.moves(-1), BAD);
        t.due(t.moves(4), 4);
        t.due(t.count(5), 4);
        t.due(t.moves(4), BAD);
        t.due(t.moves(0), 8);
        // It needs no CUT, waits for nothing, and no CORNER is BURNT at.
        t.due(t.burns(1), 9);
        t.due(t.moves(0), 10);
        t.due(t.moves(1), 11);
        t.due(t.corner(0, 3), 8);
        t.due(t.corner(1, 3), 9);
        t.due(t.corner(4, 3), NONE);
        t.due(t.count(4), 3);
    }

    private static void tenUndone() {
        Run.says("UNDONE: the latest burns(), moves(), follows() (10 are known, older ones are lost); STATE: none");
        for (int acts = 0; acts <= 25; acts++) {
            Run t = Run.told(LINE);
            for (int i = 0; i < acts; i++) {
                t.moves(i % 2 == 0 ? 1 : 0);
                t.due(t.count(10), Math.min(i + 1, 10));
            }
            int known = Math.min(acts, 10);
            for (int more = known - 1; more >= 0; more--) {
                t.due(t.undo(), more);
                t.due(t.count(10), more);
            }
            t.due(t.undo(), STATE);
            t.due(t.count(6), acts - known);
            t.due(t.count(5), (acts - known) % 2);
        }
        Run each = Run.told(LINE);
        each.due(each.burns(1), 1);
        each.due(each.moves(0), 2);
        each.due(each.follows(), 1);
        each.due(each.follows(), 2);
        each.due(each.count(10), 4);
        each.due(each.undo(), 3);
        each.due(each.count(5), 1);
        each.due(each.undo(), 2);
        each.due(each.count(5), 0);
        each.due(each.undo(), 1);
        each.due(each.count(5), 1);
        each.due(each.undo(), 0);
        each.due(each.count(5), 0);
        each.due(each.count(4), 4);
        each.due(each.undo(), STATE);
        // What was undone makes room again.
        Run room = Run.told(LINE);
        for (int i = 0; i < 12; i++) {
            room.moves(i % 2 == 0 ? 1 : 0);
        }
        room.due(room.undo(), 9);
        room.due(room.undo(), 8);
        room.due(room.moves(4), 14);
        room.due(room.count(10), 9);
        room.due(room.undo(), 8);
        room.due(room.count(6), 10);
    }

    private static void refusedIsNotUndone() {
        Run.says("that was not refused");
        Run t = Run.told(SQUARE_WITH_TRIANGLE);
        t.moves(4);
        t.burns(5);
        t.burns(6);
        for (int i = 0; i < 12; i++) {
            t.due(t.burns(5), STATE);
            t.due(t.burns(6), BAD);
            t.due(t.moves(6), BAD);
            t.due(t.moves(7), BAD);
        }
        t.due(t.count(10), 3);
        t.due(t.undo(), 2);
        t.due(t.count(5), 5);
        Run.says("looks, what is SEEN, IMAGES and letters are no acts that can be UNDONE");
        t.keep(0);
        t.sees(0, 1, 1);
        t.ask();
        t.type('k');
        t.due(t.count(10), 2);
        t.due(t.undo(), 1);
        t.due(t.count(8), 1);
        t.due(t.count(9), 1);
        t.due(t.count(5), 4);
    }

    private static void undoneToTheFirst() {
        Run.says("UNDONE: all is as it was ahead of that act");
        String[] plates = {LINE, "h20;" + LINE, SQUARE_WITH_TRIANGLE + "h20;", FOUR_DEEP + "h3;"};
        for (String text : plates) {
            for (int acts = 0; acts < 8; acts++) {
                int n = acts;
                Twins.Tale tale = run -> {
                    run.tells(text);
                    for (int i = 0; i < n; i++) {
                        run.follows();
                    }
                };
                Twins.alike(tale, run -> {
                    tale.on(run);
                    if (run.follows() >= 0) {
                        run.undo();
                    }
                });
                Twins.alike(tale, run -> {
                    tale.on(run);
                    run.moves(run.count(5) == 3 ? 2 : 3);
                    run.moves(0);
                    run.undo();
                    run.undo();
                });
            }
        }
    }

    private static void imagesKeep() {
        Run.says("IMAGES 0, 1 keep what is LEFT, THE TORCH, TIME, when CORNERS were BURNT at, whether a CUT has just"
                + " ended");
        Run t = Run.told("h20;" + LINE);
        t.due(t.back(0), STATE);
        t.due(t.back(1), STATE);
        t.due(t.keep(0), 0);
        t.due(t.back(1), STATE);
        t.due(t.burns(1), 1);
        t.due(t.keep(1), 1);
        t.due(t.burns(2), 2);
        t.due(t.back(0), 0);
        t.dueCounts(5, 4, 0, 20, 4, 0, 0, 1, 0, 0, 0);
        t.due(t.corner(0, 3), NONE);
        t.due(t.back(1), 1);
        t.dueCounts(5, 4, 0, 20, 3, 1, 1, 1, 0, 0, 0);
        t.due(t.corner(0, 3), 0);
        t.due(t.corner(2, 3), NONE);
        // It can be taken again and again, and kept anew.
        t.due(t.back(1), 1);
        t.due(t.moves(4), 4);
        t.due(t.keep(1), 4);
        t.due(t.back(0), 0);
        t.due(t.back(1), 4);
        t.due(t.count(5), 4);
        for (int acts = 0; acts < 6; acts++) {
            int n = acts;
            Twins.Tale kept = run -> {
                run.tells(SQUARE_WITH_TRIANGLE + "h20;");
                for (int i = 0; i < n; i++) {
                    run.follows();
                }
                run.keep(0);
                run.back(0);
            };
            Twins.alike(kept, run -> {
                kept.on(run);
                for (int i = 0; i < 7; i++) {
                    run.follows();
                }
                run.moves(run.count(5) == 3 ? 2 : 3);
                run.back(0);
            });
        }
    }

    private static void imagesKeepNothingElse() {
        Run.says("nothing else (nothing can be UNDONE behind back())");
        Run t = Run.told(LINE);
        t.moves(1);
        t.due(t.keep(0), 1);
        t.due(t.count(10), 1);
        t.moves(2);
        t.sees(0, 1, 1);
        t.type('k');
        t.due(t.count(10), 2);
        t.due(t.back(0), 1);
        t.due(t.count(10), 0);
        t.due(t.undo(), STATE);
        t.due(t.count(8), 1);
        t.due(t.count(9), 1);
        t.due(t.moves(0), 2);
        t.due(t.undo(), 0);
        t.due(t.undo(), STATE);
        t.due(t.count(6), 1);
        Run.says("An IMAGE is kept: TIME; nothing changes by that, nor in the other IMAGE");
        Twins.Tale tale = run -> {
            run.tells("h20;" + LINE);
            run.burns(1);
            run.keep(0);
            run.keep(1);
            run.burns(2);
            run.sees(0, 1, 0);
        };
        Twins.looksAlike(tale, run -> {
            tale.on(run);
            run.keep(0);
            run.keep(1);
        });
        Run two = Run.told(LINE);
        two.burns(1);
        two.keep(0);
        two.burns(2);
        two.keep(1);
        two.burns(3);
        two.due(two.undo(), 2);
        two.due(two.undo(), 1);
        two.due(two.back(0), 1);
        two.due(two.back(1), 2);
        Run.says("IMAGES are gone");
        two.tells(LINE);
        two.due(two.back(0), STATE);
        two.due(two.back(1), STATE);
        // A FAULT leaves them.
        two.moves(3);
        two.keep(1);
        two.moves(0);
        two.types("k");
        two.due(two.plate(), -11);
        two.due(two.back(1), 3);
        two.due(two.back(0), STATE);
    }

    private static void imagesWithoutCorners() {
        Run.says("An IMAGE is kept: TIME. BAD.");
        Run t = new Run();
        t.due(t.keep(0), 0);
        t.due(t.back(1), STATE);
        t.due(t.back(0), 0);
        t.dueCounts(0, 0, 0, 0, 0, NONE, 0, 0, 0, 0, 0);
        t.due(t.keep(1), 0);
        t.tells("k0 0;k1 0;s0 1;");
        t.due(t.back(0), STATE);
        t.due(t.back(1), STATE);
        t.dueCounts(2, 1, 0, 0, 1, 0, 0, 1, 0, 0, 0);
    }
}
