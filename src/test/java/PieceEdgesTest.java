import java.util.ArrayList;
import java.util.List;

/** The bounds of pieces, links, rounds, tours and of what is seen: Terms 3, promises 6, 10 and 12 to 19. */
public final class PieceEdgesTest {
    private static final int BAD = Run.BAD, STATE = Run.STATE, FULL = Run.FULL, NONE = Run.NONE;
    /** Four pieces of one CUT each, and a CORNER without any. */
    private static final String FOUR_PIECES =
            "k0 0;k1 0;k0 5;k1 5;k0 10;k1 10;k0 15;k1 15;k9 9;s0 1;s2 3;s4 5;s6 7;";
    /** Two rings of five that share 8, each with two chords: 14 CUTS, and all CORNERS but 8 are ODD. */
    private static final String LONGEST =
            "k0 0;k1 0;k2 0;k3 0;k0 9;k1 9;k2 9;k3 9;k5 5;p0 1 2 3 8;p4 5 6 7 8;s0 2;s1 3;s4 6;s5 7;";
    private static final String STAR = "k0 0;k1 0;k2 0;k3 0;k4 0;k5 0;k6 0;k7 0;k9 9;"
            + "s0 8;s1 8;s2 8;s3 8;s4 8;s5 8;s6 8;s7 8;";
    private static final String NESTED = "k0 0;k9 0;k9 9;k0 9;k1 1;k8 1;k8 8;p0 1 2 3;p4 5 6;";
    /** Two parts, each WITHIN the other one, that share no CORNER. */
    private static final String CROSSED = "k6 5;k0 0;k0 10;k4 5;k10 0;k10 10;p0 1 2;p3 4 5;";
    /** One piece; the inner part hangs on a CORNER of the outer one. */
    private static final String HANGING = "k0 0;k8 0;k4 9;k4 2;k4 3;p0 1 2;p3 4 0;";
    private static final String TRIANGLE = "k0 0;k4 0;k0 4;p0 1 2;";
    private static final String LINE = "k0 0;k1 0;k2 0;k3 0;k4 0;s0 1;s1 2;s2 3;s3 4;";

    public static void main(String[] args) {
        noPieces();
        fewestAndMostPieces();
        numbersOfPieces();
        oddCorners();
        mostOddCorners();
        firstPairing();
        starts();
        shortestRound();
        longestRound();
        firstRound();
        byCutRatherThanLink();
        ahead();
        noTour();
        firstTour();
        mostTour();
        idle();
        followed();
        followedMayNotBe();
        nothingIsChanged();
        seenAtMost();
        oneAndItself();
        unseenBounds();
        seenAsThingsAreNow();
        asks();
        asksLast();
        Run.end("edges of pieces");
    }

    private static void noPieces() {
        Run.says("PIECES: CUTS that are LEFT (none)");
        Run t = Run.told("h3;k5 5;k0 0;s0 1;");
        t.burns(1);
        t.dueCounts(2, 1, 0, 3, 0, 1, 10, 0, 0, 0, 1);
        t.due(t.piece(0, 0), BAD);
        t.due(t.round(0, 0, 0), BAD);
        t.due(t.tour(-1), 0);
        t.due(t.tour(0), NONE);
        t.due(t.link(0), NONE);
        t.due(t.link(1), NONE);
        t.due(t.cut(0, 2), 0);
        t.due(t.cut(0, 3), NONE);
        t.due(t.unseen(), 0);
        t.due(t.ask(), NONE);
        t.due(t.follows(), STATE);
        t.due(t.undo(), 0);
        t.due(t.count(7), 1);
        t.due(t.piece(0, 0), 1);
    }

    private static void fewestAndMostPieces() {
        Run.says("PIECES .. numbered 0, 1, ..: as many as there can be");
        Run t = Run.told(FOUR_PIECES);
        t.due(t.count(7), 4);
        for (int p = 0; p < 4; p++) {
            int[] due = {1 << p, 3 << 2 * p, 1, 2, 0};
            for (int what = 0; what < 5; what++) {
                t.due(t.piece(p, what), due[what]);
            }
            t.due(t.cut(p, 3), p);
        }
        t.due(t.piece(4, 0), BAD);
        t.due(t.piece(-1, 0), BAD);
        t.due(t.piece(3, 5), BAD);
        t.due(t.piece(3, -1), BAD);
        t.due(t.round(4, 0, 0), BAD);
        t.due(t.link(8), NONE);
        t.due(t.link(9), BAD);
        Run one = Run.told("k0 0;k1 0;s0 1;");
        one.due(one.count(7), 1);
        one.due(one.piece(1, 0), BAD);
        Run.says("its PIECE (NONE: it is not LEFT)");
        t.moves(6);
        t.burns(7);
        t.due(t.count(7), 3);
        t.due(t.cut(2, 3), 2);
        t.due(t.cut(3, 3), NONE);
        t.due(t.piece(3, 0), BAD);
        // A CUT that is not LEFT, while there are as many pieces as can be.
        Run most = Run.told(FOUR_PIECES + "s7 8;");
        most.moves(8);
        most.burns(7);
        most.due(most.count(7), 4);
        most.due(most.cut(3, 3), 3);
        most.due(most.cut(4, 3), NONE);
    }

    private static void numbersOfPieces() {
        Run.says("numbered 0, 1, .. by their lowest CORNERS");
        // The piece of CUT 1 4 is told last, and has the highest CORNER too, but a lower lowest one.
        Run t = Run.told("k0 0;k1 0;k2 0;k3 0;k4 0;s2 3;s4 1;");
        t.due(t.piece(0, 0), 1);
        t.due(t.piece(1, 0), 2);
        t.due(t.piece(0, 1), 1 << 1 | 1 << 4);
        // When CUTS are burnt, pieces part and get new numbers.
        Run line = Run.told(LINE);
        line.moves(1);
        line.burns(2);
        line.due(line.count(7), 2);
        line.due(line.piece(0, 0), 1);
        line.due(line.piece(1, 0), 12);
        line.burns(3);
        line.moves(0);
        line.burns(1);
        line.due(line.count(7), 1);
        line.due(line.piece(0, 0), 8);
        line.due(line.cut(3, 3), 0);
        line.due(line.cut(0, 3), NONE);
    }

    private static void oddCorners() {
        Run.says("ODD CORNERS of a PIECE: at which an odd number of its CUTS ends (none)");
        Run t = Run.told(TRIANGLE);
        int[] due = {7, 0, 0, 3, 0};
        for (int what = 0; what < 5; what++) {
            t.due(t.piece(0, what), due[what]);
        }
        for (int k = 0; k < 3; k++) {
            t.due(t.link(k), NONE);
        }
        t.burns(1);
        t.due(t.piece(0, 1), 3);
        t.due(t.piece(0, 2), 4);
        t.due(t.link(0), 1);
        t.due(t.link(1), 0);
        t.due(t.link(2), NONE);
    }

    private static void mostOddCorners() {
        Run.says("ODD CORNERS (as many as there can be)");
        Run t = Run.told(STAR);
        t.due(t.piece(0, 1), 255);
        t.due(t.piece(0, 2), 4);
        t.due(t.piece(0, 3), 12);
        for (int k = 0; k < 8; k++) {
            t.due(t.link(k), k ^ 1);
        }
        t.due(t.link(8), NONE);
        Run.says("LINKS: so that their WAYS together are least");
        // 0 with 7, and the others as they stand in a row: 1 2, 3 4, 5 6.
        Run s = Run.told("k0 0;k5 0;k6 0;k10 0;k11 0;k15 0;k16 0;k0 1;k9 9;"
                + "s0 8;s1 8;s2 8;s3 8;s4 8;s5 8;s6 8;s7 8;");
        int[] due = {7, 2, 1, 4, 3, 6, 5, 0, NONE};
        for (int k = 0; k < due.length; k++) {
            s.due(s.link(k), due[k]);
        }
        s.due(s.piece(0, 2), 4);
    }

    private static void firstPairing() {
        Run.says("of several such pairings the first");
        // The ends of a cross: each pairing has the same WAYS.
        Run t = Run.told("k5 0;k0 5;k10 5;k5 10;k5 5;s0 4;s1 4;s2 4;s3 4;");
        int[] due = {1, 0, 3, 2, NONE};
        for (int k = 0; k < due.length; k++) {
            t.due(t.link(k), due[k]);
        }
        t.due(t.piece(0, 2), 20);
        // 0 with 1 is farther; 0 with 2 and 1 with 3 are as far as 0 with 3 and 1 with 2.
        Run square = Run.told("k0 0;k10 10;k0 10;k10 0;k5 5;s0 4;s1 4;s2 4;s3 4;");
        int[] crosswise = {2, 3, 0, 1, NONE};
        for (int k = 0; k < crosswise.length; k++) {
            square.due(square.link(k), crosswise[k]);
        }
        square.due(square.piece(0, 2), 20);
        // Least by one: 0 with 3, though 0 with 2 would come ahead of it.
        Run least = Run.told("k0 0;k10 10;k0 10;k9 0;k5 5;s0 4;s1 4;s2 4;s3 4;");
        least.due(least.link(0), 3);
        least.due(least.link(1), 2);
        least.due(least.piece(0, 2), 19);
    }

    private static void starts() {
        Run.says("START of a PIECE: where THE TORCH is, if one of its CUTS ends there, else its lowest CORNER");
        Run t = Run.told(LINE);
        t.due(t.round(0, 0, 0), 1);
        t.moves(4);
        t.due(t.round(0, 0, 0), 3);
        t.due(t.tour(-1), 4);
        // A CORNER at which none of its CUTS is LEFT is no START.
        t.burns(3);
        t.burns(2);
        t.moves(4);
        t.due(t.round(0, 0, 0), 1);
        t.due(t.tour(-1), 4 + 2);
        t.due(t.follows(), 0);
        // Of the other pieces it is the lowest CORNER.
        Run two = Run.told(FOUR_PIECES);
        two.moves(7);
        two.due(two.round(3, 0, 0), 6);
        two.due(two.round(2, 0, 0), 5);
        two.due(two.round(0, 0, 0), 1);
        two.moves(8);
        two.due(two.round(3, 0, 0), 7);
    }

    private static void shortestRound() {
        Run.says("NONE: not so many; the k-th step of a ROUND (0 on); BAD");
        Run t = Run.told("k0 0;k1 0;s0 1;");
        t.due(t.piece(0, 3), 2);
        t.due(t.round(0, 0, 0), 1);
        t.due(t.round(0, 0, 1), 1);
        t.due(t.round(0, 1, 0), 0);
        t.due(t.round(0, 1, 1), 0);
        t.due(t.round(0, 2, 0), NONE);
        t.due(t.round(0, 2, 1), NONE);
        t.due(t.round(0, Integer.MAX_VALUE, 0), NONE);
        t.due(t.round(0, -1, 0), BAD);
        t.due(t.round(0, Integer.MIN_VALUE, 1), BAD);
        t.due(t.round(0, 0, -1), BAD);
        t.due(t.round(0, 0, 2), BAD);
        t.due(t.round(0, 2, 2), BAD);
        t.due(t.round(-1, 0, 0), BAD);
        t.due(t.round(1, 0, 0), BAD);
        t.due(t.round(1, 99, 0), BAD);
    }

    /** A round is a walk from start to start over each cut and link of the piece once, a cut first. */
    private static void isRound(Run t, int p, int start, int steps) {
        List<Integer> gone = new ArrayList<>();
        int at = start;
        int ways = 0;
        for (int k = 0; k < steps; k++) {
            int to = t.round(p, k, 0);
            int byCut = t.round(p, k, 1);
            int code = 1000 * byCut + 10 * Math.min(at, to) + Math.max(at, to);
            t.due(gone.contains(code) ? 1 : 0, 0);
            if (byCut == 0) {
                t.due(t.link(at), to);
                ways += Math.abs(t.corner(at, 0) - t.corner(to, 0)) + Math.abs(t.corner(at, 1) - t.corner(to, 1));
            }
            gone.add(code);
            at = to;
        }
        t.due(at, start);
        t.due(t.round(p, 0, 1), 1);
        t.due(t.piece(p, 2), ways);
        t.due(t.piece(p, 3), steps);
        t.due(t.round(p, steps, 0), NONE);
        t.due(t.round(p, steps, 1), NONE);
    }

    private static void longestRound() {
        Run.says("ROUND: over each of its CUTS and LINKS just once (as many as there can be)");
        Run t = Run.told(LONGEST);
        t.dueCounts(9, 14, 2);
        t.due(t.piece(0, 0), (1 << 14) - 1);
        t.due(t.piece(0, 1), 255);
        isRound(t, 0, 0, 18);
        Run u = Run.told(LONGEST);
        u.moves(8);
        isRound(u, 0, 8, 18);
        Run star = Run.told(STAR);
        isRound(star, 0, 0, 12);
    }

    private static void rounds(Run t, int p, int... corners) {
        for (int k = 0; k < corners.length; k++) {
            t.due(t.round(p, k, 0), corners[k]);
        }
        t.due(t.round(p, corners.length, 0), NONE);
    }

    private static void firstRound() {
        Run.says("of all walks from its START back to it .. the first (CORNER by CORNER)");
        rounds(Run.told(TRIANGLE), 0, 1, 2, 0);
        // From 2 the step to 0 would be the lower one, but would leave the other ring undone.
        rounds(Run.told("k0 0;k4 0;k0 4;k9 9;k9 5;p0 1 2;p2 3 4;"), 0, 1, 2, 3, 4, 2, 0);
        // Back at 0 it goes on, as long as a CUT is not gone over.
        rounds(Run.told("k5 5;k0 0;k4 0;k9 9;k9 8;p0 1 2;p0 3 4;"), 0, 1, 2, 0, 3, 4, 0);
    }

    private static void byCutRatherThanLink() {
        Run.says("begin with a CUT; to one CORNER by the CUT rather than by the LINK");
        Run t = Run.told("k0 0;k1 0;s0 1;");
        t.due(t.round(0, 0, 1), 1);
        t.due(t.round(0, 1, 1), 0);
        // The LINK goes from 1 to 0, the lowest CORNER; but the first step is a CUT.
        Run line = Run.told("k0 0;k1 0;k2 0;s0 2;s1 2;");
        line.moves(1);
        rounds(line, 0, 2, 0, 1);
        line.due(line.round(0, 0, 1), 1);
        line.due(line.round(0, 1, 1), 1);
        line.due(line.round(0, 2, 1), 0);
        // Between 0 and 2 there are a CUT and a LINK: the CUT is gone over ahead of the LINK.
        Run both = Run.told("k0 0;k4 4;k9 0;k9 1;k20 20;p0 1 2;p2 3 0;");
        both.due(both.link(0), 2);
        rounds(both, 0, 1, 2, 0, 2, 3, 0);
        int[] byCut = {1, 1, 1, 0, 1, 1};
        for (int k = 0; k < byCut.length; k++) {
            both.due(both.round(0, k, 1), byCut[k]);
        }
    }

    private static void ahead() {
        Run.says("AHEAD: a PIECE must be AHEAD of another one, if a PART with a LEFT CUT in the one is WITHIN a PART"
                + " with a LEFT CUT in the other");
        Run t = Run.told(NESTED);
        t.due(t.piece(0, 4), 2);
        t.due(t.piece(1, 4), 0);
        t.moves(4);
        t.burns(5);
        t.burns(6);
        t.due(t.piece(0, 4), 2);
        // The inner part has no CUT LEFT any more.
        t.burns(4);
        t.due(t.count(7), 1);
        t.due(t.piece(0, 4), 0);
        // A part that is in two pieces: both wait for what is in it.
        Run split = Run.told(NESTED);
        split.burns(1);
        split.moves(2);
        split.burns(3);
        split.due(split.count(7), 3);
        split.due(split.piece(0, 4), 4);
        split.due(split.piece(1, 4), 4);
        split.due(split.piece(2, 4), 0);
        // Inner and outer part in one piece: it need not be ahead of itself.
        Run one = Run.told(HANGING);
        one.due(one.count(7), 1);
        one.due(one.part(1, 2), 1);
        one.due(one.piece(0, 4), 0);
        one.due(one.tour(0), 0);
        // Each must be ahead of the other.
        Run crossed = Run.told(CROSSED);
        crossed.due(crossed.piece(0, 4), 2);
        crossed.due(crossed.piece(1, 4), 1);
        // A seam in a part is no part.
        Run seam = Run.told("k0 0;k9 0;k0 9;k1 1;k2 2;p0 1 2;s3 4;");
        seam.due(seam.piece(0, 4), 0);
        seam.due(seam.piece(1, 4), 0);
        // Nor has a piece without a part to wait, or others for it.
        Run apart = Run.told(NESTED + "k20 20;k20 19;s7 8;");
        apart.due(apart.piece(0, 4), 2);
        apart.due(apart.piece(1, 4), 0);
        apart.due(apart.piece(2, 4), 0);
        Run innerFirst = Run.told("k1 1;k8 1;k8 8;k0 0;k9 0;k9 9;k0 9;k20 20;k20 19;p0 1 2;p3 4 5 6;s7 8;");
        innerFirst.due(innerFirst.piece(0, 4), 0);
        innerFirst.due(innerFirst.piece(1, 4), 1);
        innerFirst.due(innerFirst.piece(2, 4), 0);
        // Two pieces ahead of one.
        Run both = Run.told("k0 0;k20 0;k0 20;k1 1;k3 1;k1 3;k5 5;k7 5;k5 7;p0 1 2;p3 4 5;p6 7 8;");
        both.due(both.piece(0, 4), 6);
        both.due(both.piece(1, 4), 0);
        both.due(both.piece(2, 4), 0);
        both.due(both.tour(2), 0);
        // A second part in the outer piece, or in the inner one, that has nothing to do with it.
        Run outerWithMore = Run.told("k0 0;k9 0;k9 9;k0 9;k15 9;k15 15;k2 2;k5 2;k2 5;p0 1 2 3;p2 4 5;p6 7 8;");
        outerWithMore.due(outerWithMore.piece(0, 4), 2);
        Run innerWithMore = Run.told("k0 0;k9 0;k9 9;k0 9;k2 2;k5 2;k2 5;k15 15;k16 15;p0 1 2 3;p4 5 6;p7 8 4;");
        innerWithMore.due(innerWithMore.part(2, 2), 0);
        innerWithMore.due(innerWithMore.piece(0, 4), 2);
    }

    private static void noTour() {
        Run.says("NONE (there is no such order)");
        Run t = Run.told(CROSSED);
        t.due(t.count(7), 2);
        for (int k = -1; k <= 2; k++) {
            t.due(t.tour(k), NONE);
        }
        t.due(t.tour(-2), BAD);
        t.due(t.follows(), STATE);
        t.moves(3);
        t.due(t.follows(), STATE);
        t.due(t.tour(-1), NONE);
        // Pieces, links and rounds there are all the same.
        t.due(t.piece(0, 3), 3);
        rounds(t, 0, 1, 2, 0);
        // A third piece makes no order.
        Run three = Run.told(CROSSED + "k20 20;k20 19;s6 7;");
        three.due(three.count(7), 3);
        three.due(three.tour(-1), NONE);
        three.due(three.tour(0), NONE);
        three.due(three.follows(), STATE);
        // Burnt by hand as far as may be, each part keeps its last CUT.
        t.moves(0);
        t.burns(1);
        t.burns(2);
        t.due(t.burns(0), STATE);
        t.due(t.follows(), STATE);
        t.due(t.tour(-1), NONE);
    }

    private static void firstTour() {
        Run.says("least together, of several the first; The k-th PIECE of the TOUR; NONE. BAD: k below -1");
        Run one = Run.told("k0 0;k1 0;s0 1;");
        one.due(one.tour(0), 0);
        one.due(one.tour(1), NONE);
        one.due(one.tour(Integer.MAX_VALUE), NONE);
        one.due(one.tour(-1), 1);
        one.due(one.tour(-2), BAD);
        one.due(one.tour(Integer.MIN_VALUE), BAD);
        // To both sides it is as far.
        Run same = Run.told("k10 0;k9 0;k9 1;k11 0;k11 1;s3 4;s1 2;");
        same.due(same.tour(0), 0);
        same.due(same.tour(1), 1);
        same.due(same.tour(-1), 1 + 2 + 2);
        // A little nearer to the other one.
        Run near = Run.told("k10 0;k8 0;k8 1;k11 0;k11 1;s3 4;s1 2;");
        near.due(near.tour(0), 1);
        near.due(near.tour(1), 0);
        near.due(near.tour(-1), 1 + 3 + 2);
        // Inner ones ahead of outer ones, though that is farther.
        Run inner = Run.told(NESTED);
        inner.due(inner.tour(0), 1);
        inner.due(inner.tour(1), 0);
        inner.due(inner.tour(2), NONE);
    }

    private static void mostTour() {
        Run.says("TOUR: an order of all PIECES (as many as there can be)");
        Run t = Run.told(FOUR_PIECES);
        for (int k = 0; k < 4; k++) {
            t.due(t.tour(k), k);
        }
        t.due(t.tour(4), NONE);
        t.due(t.tour(-1), 15 + 4);
        t.moves(7);
        for (int k = 0; k < 4; k++) {
            t.due(t.tour(k), 3 - k);
        }
        t.due(t.tour(4), NONE);
        t.due(t.tour(-1), 6 + 5 + 5 + 4);
    }

    private static void idle() {
        Run.says("IDLE: those WAYS and those of all LINKS");
        Run ring = Run.told(TRIANGLE);
        ring.due(ring.tour(-1), 0);
        ring.burns(1);
        ring.due(ring.tour(-1), 4);
        Run far = Run.told("k0 0;k20 20;k20 0;s1 2;");
        far.due(far.tour(-1), 40 + 20);
        far.moves(2);
        far.due(far.tour(-1), 20);
        far.burns(1);
        far.due(far.tour(-1), 0);
    }

    private static void followed() {
        Run.says("FOLLOWED: MOVED to the START of the first PIECE, if it is not there; else the first step is BURNT");
        Run t = Run.told(FOUR_PIECES);
        int[] due = {1, 2, 3, 4, 5, 6, 7};
        int[] left = {3, 3, 2, 2, 1, 1, 0};
        for (int i = 0; i < due.length; i++) {
            t.due(t.follows(), due[i]);
            t.due(t.count(4), left[i]);
            t.due(t.count(5), due[i]);
        }
        Run.says("STATE: no CUT is LEFT");
        t.due(t.follows(), STATE);
        t.due(t.count(10), 7);
        t.due(t.undo(), 6);
        t.due(t.follows(), 7);
    }

    private static void followedMayNotBe() {
        Run.says("BURNT, if it may be. STATE: it may not be");
        Run t = Run.told(HANGING);
        t.burns(1);
        t.burns(2);
        t.moves(4);
        t.burns(0);
        int time = t.count(6);
        // The round goes to 2 first, which is the outer part's last CUT.
        t.due(t.round(0, 0, 0), 2);
        t.due(t.follows(), STATE);
        t.due(t.count(6), time);
        t.due(t.count(5), 0);
        t.due(t.count(4), 3);
        t.due(t.count(10), 4);
        t.moves(3);
        t.burns(4);
        t.moves(3);
        t.burns(0);
        t.due(t.part(1, 1), 0);
        t.due(t.follows(), 2);
        t.due(t.count(4), 0);
    }

    private static void nothingIsChanged() {
        Run.says("(As things are NOW; nothing is changed.)");
        for (String text : new String[] {FOUR_PIECES, NESTED + "h9;", CROSSED, STAR}) {
            Twins.Tale tale = run -> {
                run.tells(text);
                run.follows();
                run.keep(1);
                run.follows();
                run.sees(0, 1, 1);
                run.type('h');
            };
            Twins.alike(tale, run -> {
                tale.on(run);
                for (int n = 0; n < 4; n++) {
                    run.piece(n, 3);
                    run.round(n, 2, 0);
                    run.round(n, 0, 1);
                    run.link(n);
                    run.tour(n);
                    run.tour(-1);
                    run.cut(n, 3);
                    run.unseen();
                    run.ask();
                }
            });
        }
    }

    private static void seenAtMost() {
        Run.says("SEEN (6 at most): how much there is. BAD; FULL");
        Run t = Run.told(LINE);
        for (int i = 1; i <= 6; i++) {
            t.due(t.sees(0, 2, 1), i);
            t.due(t.count(8), i);
        }
        t.due(t.sees(0, 2, 1), FULL);
        t.due(t.sees(2, 2, 0), FULL);
        t.due(t.sees(5, 2, 0), BAD);
        t.due(t.sees(0, 5, 0), BAD);
        t.due(t.sees(0, 2, 2), BAD);
        t.due(t.count(8), 6);
        t.due(t.unseen(), 12);
        Run.says("Nothing is SEEN: how much was.");
        t.due(t.forget(), 6);
        t.due(t.count(8), 0);
        t.due(t.unseen(), 15);
        t.due(t.forget(), 0);
        t.due(t.sees(0, 4, 0), 1);
        t.due(t.forget(), 1);
        // Each of the six counts, the first and the last too.
        for (int odd = 0; odd < 6; odd++) {
            t.forget();
            for (int i = 0; i < 6; i++) {
                t.due(t.sees(i == odd ? 3 : 0, i == odd ? 4 : 2, 1), i + 1);
            }
            t.due(t.unseen(), 4);
        }
        Run.says("BAD: no such CORNER, neither 0 nor 1");
        Run bad = Run.told(LINE);
        for (int k : new int[] {-1, 5, 9, 16, 32, Integer.MIN_VALUE, Integer.MAX_VALUE, NONE}) {
            bad.due(bad.sees(k, 0, 0), BAD);
            bad.due(bad.sees(0, k, 0), BAD);
            bad.due(bad.sees(k, k, 1), BAD);
        }
        for (int together : new int[] {-1, 2, Integer.MIN_VALUE, Integer.MAX_VALUE}) {
            bad.due(bad.sees(0, 1, together), BAD);
        }
        bad.due(bad.count(8), 0);
        bad.due(bad.sees(4, 0, 0), 1);
        bad.due(bad.sees(0, 4, 0), 2);
        bad.due(bad.unseen(), 15);
    }

    private static void oneAndItself() {
        Run.says("one and itself always do");
        Run t = Run.told(LINE + "k9 9;");
        for (int k = 0; k < 6; k++) {
            t.due(t.sees(k, k, 1), k + 1);
            t.due(t.unseen(), 15);
        }
        for (int k = 0; k < 6; k++) {
            t.forget();
            t.due(t.sees(k, k, 0), 1);
            t.due(t.unseen(), 0);
            t.due(t.ask(), NONE);
        }
    }

    private static void unseenBounds() {
        Run.says("UNSEEN: CUTS (bits) by which all that was SEEN is so (all of them, none, one)");
        Run most = Run.told(LONGEST);
        most.due(most.unseen(), (1 << 14) - 1);
        most.due(most.sees(0, 8, 1), 1);
        most.due(most.unseen(), (1 << 14) - 1);
        most.due(most.sees(0, 1, 0), 2);
        most.due(most.unseen(), 0);
        Run t = Run.told(LINE);
        t.due(t.sees(3, 4, 0), 1);
        t.due(t.unseen(), 8);
        t.due(t.sees(0, 1, 0), 2);
        t.due(t.unseen(), 0);
        // Either CORNER may be told first.
        t.forget();
        t.due(t.sees(4, 3, 0), 1);
        t.due(t.unseen(), 8);
    }

    private static void seenAsThingsAreNow() {
        Run.says("one unknown LEFT CUT being BURNT");
        Run t = Run.told(LINE);
        t.sees(0, 2, 0);
        t.due(t.unseen(), 3);
        t.due(t.burns(1), 1);
        // 0 and 2 are apart already, whichever CUT it is.
        t.due(t.unseen(), 14);
        t.due(t.undo(), 0);
        t.due(t.unseen(), 3);
        t.moves(4);
        t.burns(3);
        t.due(t.unseen(), 3);
        t.due(t.ask(), 1);
        t.burns(2);
        t.burns(1);
        t.due(t.unseen(), 1);
        t.due(t.ask(), NONE);
        t.burns(0);
        t.due(t.unseen(), 0);
        t.due(t.count(8), 1);
    }

    private static void asks() {
        Run.says("ASK .. NONE (one can be at most)");
        Run none = Run.told("k0 0;k1 0;");
        none.due(none.ask(), NONE);
        Run one = Run.told("k0 0;k1 0;s0 1;");
        one.due(one.ask(), NONE);
        Run two = Run.told("k0 0;k1 0;k2 0;s0 1;s1 2;");
        two.due(two.ask(), 1);
        two.sees(0, 1, 1);
        two.due(two.unseen(), 2);
        two.due(two.ask(), NONE);
        two.sees(0, 1, 0);
        two.due(two.unseen(), 0);
        two.due(two.ask(), NONE);
        Run.says("the greater part of these is smallest, of several the first");
        Run line = Run.told(LINE);
        line.due(line.ask(), 2);
        line.sees(0, 2, 1);
        line.due(line.ask(), 16 * 0 + 3);
        // No question parts the CUTS of a ring: the first two.
        Run ring = Run.told(TRIANGLE);
        ring.due(ring.ask(), 1);
        Run more = Run.told("k9 9;k0 0;k4 0;k0 4;p1 2 3;");
        more.due(more.ask(), 1);
    }

    private static void asksLast() {
        Run.says("the two CORNERS (16 times the lower one, and the other)");
        // Only the question for the last two parts the CUTS: a ring hangs together without any one of its own.
        Run t = Run.told("k0 0;k4 0;k0 4;k9 0;k9 1;k9 2;k9 3;k15 5;k15 6;p0 1 2;s7 8;");
        t.due(t.ask(), 16 * 7 + 8);
        t.sees(7, 8, 1);
        t.due(t.unseen(), 7);
        t.due(t.ask(), 1);
        t.sees(8, 7, 0);
        t.due(t.ask(), NONE);
    }
}
