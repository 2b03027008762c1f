/** The bounds of THE TEXT and of what it may tell: the document's Terms 1, promises 1 to 7. */
public final class TextEdgesTest {
    private static final int BAD = Run.BAD, FULL = Run.FULL, NONE = Run.NONE;
    private static final int MOST_LETTERS = 110;
    private static final String THREE = "k0 0;k1 0;k2 0;";
    private static final String SIX = THREE + "k3 0;k4 0;k5 0;";
    private static final String NINE = SIX + "k6 0;k7 0;k8 0;";
    /** All CUTS among five CORNERS, and four more to a sixth one; 4 and 5 have none. */
    private static final String FOURTEEN = SIX + "p0 1 2 3 4;p0 2 4 1 3;s0 5;s1 5;s2 5;s3 5;";
    /** The same with two more CUTS that can be told. */
    private static final String TWELVE = SIX + "p0 1 2 3 4;p0 2 4 1 3;s0 5;s1 5;";

    public static void main(String[] args) {
        letters();
        clearing();
        textLength();
        blanks();
        everyLetter();
        heat();
        cornerCount();
        places();
        placesOfOthers();
        seams();
        cutCount();
        cutNumbers();
        ringSizes();
        ringCorners();
        partCount();
        toldAhead();
        numbers();
        wrongItems();
        endsTooEarly();
        firstFault();
        itemCount();
        faultyThenSound();
        toldAnew();
        Run.end("edges of the text");
    }

    /** A plate with acts, images and something seen, so that a change would show. */
    private static void busy(Run t) {
        t.tells("h9;k0 0;k4 0;k0 4;p0 1 2;");
        t.burns(1);
        t.keep(0);
        t.burns(2);
        t.moves(1);
        t.keep(1);
        t.sees(0, 1, 1);
    }

    /** The mark ^ stands ahead of the first letter of the TOKEN that is the FAULT. */
    private static void faulty(String marked) {
        int place = marked.indexOf('^');
        String text = marked.substring(0, place) + marked.substring(place + 1);
        Run t = Run.typed(text);
        t.due(t.plate(), -10 - place);
        Twins.refused(-10 - place, run -> {
            busy(run);
            run.types(text);
        }, run -> run.plate());
    }

    private static Run sound(String text, int items) {
        Run t = Run.typed(text);
        t.due(t.plate(), items);
        t.due(t.count(9), 0);
        return t;
    }

    private static String blank(int n) {
        return " ".repeat(n);
    }

    private static void letters() {
        Run.says("A letter (0 .. 255) comes to THE TEXT: how many it has. BAD");
        Run t = new Run();
        t.due(t.type(-1), BAD);
        t.due(t.type(256), BAD);
        t.due(t.type(Integer.MIN_VALUE), BAD);
        t.due(t.type(Integer.MAX_VALUE), BAD);
        t.due(t.count(9), 0);
        t.due(t.type(0), 1);
        t.due(t.type(255), 2);
        t.due(t.count(9), 2);
        Run all = new Run();
        for (int letter = 0; letter <= 255; letter++) {
            if (letter % MOST_LETTERS == 0) {
                all.clear();
            }
            all.due(all.type(letter), letter % MOST_LETTERS + 1);
        }
        Run.says("a text (110 letters at most); FULL; the first of these: BAD, FULL");
        Run full = new Run();
        for (int i = 1; i <= MOST_LETTERS; i++) {
            full.due(full.type(' '), i);
        }
        full.due(full.type(' '), FULL);
        full.due(full.type(0), FULL);
        full.due(full.type(255), FULL);
        full.due(full.type(-1), BAD);
        full.due(full.type(256), BAD);
        full.due(full.count(9), MOST_LETTERS);
        Twins.refused(FULL, run -> run.types("k5 5;" + blank(105)), run -> run.type('x'));
        Twins.refused(FULL, run -> run.types(blank(110)), run -> run.type(' '));
        Twins.refused(BAD, run -> run.types("k5 5;" + blank(104)), run -> run.type(256));
        Twins.refused(BAD, run -> run.types("k5 5;" + blank(105)), run -> run.type(-1));
        full.due(full.plate(), 0);
        full.due(full.type(' '), 1);
    }

    private static void clearing() {
        Run.says("THE TEXT is empty: how many letters it had.");
        Run t = new Run();
        t.due(t.clear(), 0);
        t.type('k');
        t.due(t.clear(), 1);
        t.due(t.count(9), 0);
        t.due(t.clear(), 0);
        t.due(t.plate(), 0);
        t.types(blank(MOST_LETTERS));
        t.due(t.type(' '), FULL);
        t.due(t.clear(), MOST_LETTERS);
        t.due(t.type(' '), 1);
        Twins.alike(TextEdgesTest::busy, run -> {
            busy(run);
            run.types("k0 0;x");
            run.clear();
        });
        Twins.alike(TextEdgesTest::busy, run -> {
            busy(run);
            run.clear();
        });
    }

    private static void textLength() {
        Run.says("a text (110 letters at most)");
        sound("k0 0;" + blank(100) + "k5 5;", 2).dueCounts(2);
        sound(blank(110), 0);
        sound(blank(109) + " ", 0);
        faulty(blank(109) + "^;");
        faulty("k0 0;" + blank(104) + "^x");
        faulty("k0 0;" + blank(104) + "k^");
        faulty("k0 0;" + blank(101) + "k1 0^");
        faulty("k0 0;k" + blank(104) + "^");
    }

    private static void blanks() {
        Run.says("blanks (32) between TOKENS");
        sound("", 0);
        sound(" ", 0);
        sound("   ", 0);
        sound("h7;k1 2;k3 4;s0 1;", 4).dueCounts(2, 1, 0, 7);
        sound("  h  7  ;  k  1  2  ;  k  3  4  ;  s  0  1  ;  ", 4).dueCounts(2, 1, 0, 7);
        sound(THREE + "p0 1 2;", 4).dueCounts(3, 3, 1);
        sound(THREE + " p  0   1  2 ; ", 4).dueCounts(3, 3, 1);
        Run t = sound("k 1 20 ;", 1);
        t.due(t.corner(0, 0), 1);
        t.due(t.corner(0, 1), 20);
        // A blank parts two NUMBERS; without it they are one.
        faulty("k12^;");
        faulty("h1 ^2;");
        faulty("k1 1 ^2;");
        Run.says("of any other letter: that is no blank");
        for (int letter : new int[] {0, 9, 10, 13, 31, 33, 127, 160, 255}) {
            faulty("k1^" + (char) letter + "1;");
            faulty("^" + (char) letter + "k1 1;");
            faulty("k1 1;^" + (char) letter);
        }
    }

    private static void everyLetter() {
        Run.says("TOKENS are the letters h, k, p, s, NUMBERS and ; .. of any other letter ..");
        for (int letter = 0; letter <= 255; letter++) {
            boolean begins = "hkps".indexOf(letter) >= 0;
            Run t = new Run();
            t.type(letter);
            t.due(t.plate(), letter == ' ' ? 0 : begins ? -11 : -10);
            t.due(t.count(9), letter == ' ' ? 0 : 1);
            boolean digit = letter >= '0' && letter <= '9';
            Run number = Run.typed("k");
            number.type(letter);
            number.due(number.plate(), letter == ' ' || digit ? -12 : -11);
            Run behind = Run.typed("k1 1");
            behind.type(letter);
            behind.due(behind.plate(), letter == ';' ? 1 : letter == ' ' || digit ? -15 : -14);
        }
    }

    private static void heat() {
        Run.says("HEAT (0 .. 20; 0 at first)");
        new Run().dueCounts(0, 0, 0, 0);
        sound("k0 0;", 1).dueCounts(1, 0, 0, 0);
        sound("h0;", 1).dueCounts(0, 0, 0, 0);
        sound("h1;", 1).dueCounts(0, 0, 0, 1);
        sound("h19;", 1).dueCounts(0, 0, 0, 19);
        sound("h20;", 1).dueCounts(0, 0, 0, 20);
        faulty("h^21;");
        faulty("h ^99;");
        Run.says("h N (HEAT; once at most): h again");
        faulty("h1;^h1;");
        faulty("h0;^h");
        faulty("h0;k1 1; ^h2;");
        faulty("h^h1;");
        Run anew = Run.told("h20;");
        anew.tells("h5;k0 0;");
        anew.dueCounts(1, 0, 0, 5);
        anew.tells("k0 0;");
        anew.dueCounts(1, 0, 0, 0);
    }

    private static void cornerCount() {
        Run.says("CORNERS 0 .. (9 at most); a tenth k");
        sound("k0 0;", 1).dueCounts(1);
        Run t = sound(NINE, 9);
        t.dueCounts(9);
        t.due(t.corner(8, 0), 8);
        t.due(t.corner(9, 0), BAD);
        sound(NINE.substring(0, 40), 8).dueCounts(8);
        faulty(NINE + "^k9 0;");
        faulty(NINE + "^k");
        faulty(NINE + "h1; ^k0 0;");
    }

    private static void places() {
        Run.says("each at X, Y (0 .. 20)");
        Run t = sound("k0 0;k20 0;k0 20;k20 20;", 4);
        int[][] due = {{0, 0}, {20, 0}, {0, 20}, {20, 20}};
        for (int k = 0; k < due.length; k++) {
            t.due(t.corner(k, 0), due[k][0]);
            t.due(t.corner(k, 1), due[k][1]);
        }
        faulty("k^21 0;");
        faulty("k^21 21;");
        faulty("k0 ^21;");
        faulty("k20 ^21;");
        faulty("k^99 0;");
        faulty("k0 ^99;");
        faulty("k^-1 0;");
        faulty("k0 ^-1;");
    }

    private static void placesOfOthers() {
        Run.says("no two at one place; Y by which a CORNER would be at the place of another one");
        sound("k3 4;k4 3;k3 3;k4 4;", 4).dueCounts(4);
        sound("k1 11;k11 1;k1 1;", 3).dueCounts(3);
        sound("k0 1;k0 2;k0 3;k1 0;", 4).dueCounts(4);
        faulty("k0 0;k0 ^0;");
        faulty("k20 20;k0 0;k20 ^20;");
        faulty(NINE.substring(0, 40) + "k7 ^0;");
        faulty(NINE.substring(0, 40) + "k0 ^0;");
        faulty("k1 1;k1 ^1");
        // Nothing of the text that was told ahead counts.
        Run t = Run.told("k1 1;");
        t.types("k1 1;");
        t.due(t.plate(), 1);
    }

    private static void seams() {
        Run.says("CUTS, each between two unlike CORNERS; B that is A");
        sound("k0 0;k1 0;s0 1;", 3).dueCounts(2, 1);
        sound("k0 0;k1 0;s1 0;", 3).dueCounts(2, 1);
        faulty("k0 0;s0 ^0;");
        faulty("k0 0;k1 0;s1 ^1;");
        faulty("k0 0;k1 0;s1 ^1");
        Run.says("once at most: s A B (a CUT, if there is none there yet)");
        sound("k0 0;k1 0;s0 1;s0 1;s1 0;", 5).dueCounts(2, 1);
        sound(THREE + "p0 1 2;s0 1;s2 0;", 6).dueCounts(3, 3, 1);
        sound(THREE + "s0 2;s1 0;p0 1 2;", 6).dueCounts(3, 3, 1);
        sound(THREE + "p0 1 2;p2 1 0;", 5).dueCounts(3, 3, 2);
        faulty("k0 0;k1 0;s^;");
        faulty("k0 0;k1 0;s0^;");
        faulty("k0 0;k1 0;s0 1 ^0;");
    }

    private static void cutCount() {
        Run.says("14 at most");
        Run t = sound(FOURTEEN, 12);
        t.dueCounts(6, 14, 2, 0, 14);
        t.due(t.unseen(), (1 << 14) - 1);
        t.due(t.cut(13, 0), 3);
        t.due(t.cut(13, 1), 5);
        t.due(t.cut(14, 0), BAD);
        Run.says("the CORNER by which there would be a fifteenth CUT");
        faulty(FOURTEEN + "s5 ^4;");
        faulty(FOURTEEN + "s4 ^5;");
        faulty(FOURTEEN + "p4 ^5 0;");
        faulty(FOURTEEN + "p0 5 ^4;");
        faulty(FOURTEEN + "p0 1 2 5 ^4;");
        faulty(FOURTEEN + "p0 1 2 5 ^4");
        Run.says("of a ring's last CUT its ;");
        faulty(FOURTEEN + "p4 0 5^;");
        faulty(FOURTEEN + "p5 0 1 2 4 ^;");
        faulty(FOURTEEN + "p4 0 5^");
        Run.says("a CUT that there is already is no fifteenth one");
        sound(FOURTEEN + "s5 0;s4 2;p0 1 2;p0 5 1;", 16).dueCounts(6, 14, 4);
        sound(TWELVE + "p2 5 3;", 11).dueCounts(6, 14, 3);
        sound(TWELVE + "s2 5;s4 5;", 12).dueCounts(6, 14, 2);
        faulty(TWELVE + "p2 5 4;s3 ^5;");
        faulty(TWELVE + "s2 5;p3 5 ^4;");
    }

    private static void cutNumbers() {
        Run.says("numbered 0, 1, .. by their lower CORNER, then the other one");
        Run t = sound(FOURTEEN, 12);
        int c = 0;
        for (int a = 0; a < 6; a++) {
            for (int b = a + 1; b < 6; b++) {
                if (a != 4) {
                    t.due(t.cut(c, 0), a);
                    t.due(t.cut(c, 1), b);
                    c++;
                }
            }
        }
        t.due(c, 14);
        Run s = sound(NINE + "s8 7;s0 8;s1 0;", 12);
        int[][] due = {{0, 1}, {0, 8}, {7, 8}};
        for (int i = 0; i < due.length; i++) {
            s.due(s.cut(i, 0), due[i][0]);
            s.due(s.cut(i, 1), due[i][1]);
        }
    }

    private static void ringSizes() {
        Run.says("PARTS: rings of 3 to 5 unlike CORNERS; ; behind fewer than three; a sixth one");
        faulty(SIX + "p^;");
        faulty(SIX + "p0^;");
        faulty(SIX + "p0 1 ^;");
        for (int size = 3; size <= 5; size++) {
            Run t = sound(SIX + "p0 1 2 3 4".substring(0, 2 * size) + ";", 7);
            t.dueCounts(6, size, 1);
            t.due(t.part(0, 0), size);
            t.due(t.part(0, 1), size);
        }
        faulty(SIX + "p0 1 2 3 4 ^5;");
        faulty(SIX + "p0 1 2 3 4 ^0;");
        faulty(SIX + "p0 1 2 3 4 ^5");
        Run.says("between each and the next one, the last and the first, there is a CUT");
        Run t = sound(SIX + "p4 2 0;", 7);
        int[][] due = {{0, 2}, {0, 4}, {2, 4}};
        for (int c = 0; c < 3; c++) {
            t.due(t.cut(c, 0), due[c][0]);
            t.due(t.cut(c, 1), due[c][1]);
        }
        t.due(t.cut(3, 0), BAD);
    }

    private static void ringCorners() {
        Run.says("a CORNER of a ring that it has already");
        faulty(SIX + "p0 ^0");
        faulty(SIX + "p0 1 ^0;");
        faulty(SIX + "p0 1 ^1;");
        faulty(SIX + "p0 1 2 ^0;");
        faulty(SIX + "p0 1 2 3 ^0;");
        faulty(SIX + "p0 1 2 3 ^3;");
        // Another ring may have it.
        sound(SIX + "p0 1 2;p0 2 1;p2 3 4;", 9).dueCounts(6, 6, 3);
    }

    private static void partCount() {
        Run.says("PARTS 0 .. (4 at most); a fifth p");
        String ring = "p0 1 2;";
        Run t = sound(THREE + ring + ring + ring + ring, 7);
        t.dueCounts(3, 3, 4);
        t.due(t.part(3, 0), 3);
        t.due(t.part(4, 0), BAD);
        faulty(THREE + ring + ring + ring + ring + "^p0 1 2;");
        faulty(THREE + ring + ring + ring + ring + "^p");
        sound(THREE + ring + ring + ring + ring + "s0 1;", 8);
    }

    private static void toldAhead() {
        Run.says("of CORNERS told ahead");
        faulty("p^0 1 2;");
        faulty("s^0 1;");
        faulty("k0 0;s0 ^1;k1 0;");
        faulty("k0 0;s^1 0;k1 0;");
        faulty("k0 0;k1 0;p0 1 ^2;k2 0;");
        faulty(THREE + "p^3 0 1;");
        faulty(THREE + "p0 ^3 1;");
        faulty(THREE + "p0 1 ^3;");
        faulty(THREE + "p0 1 2 ^3;");
        faulty(NINE + "s^9 0;");
        faulty(NINE + "s0 ^9;");
        faulty(NINE + "p^9");
        faulty(NINE + "p^99");
        sound(NINE + "s8 7;p8 7 6;", 11).dueCounts(9, 3, 1);
        sound("k0 0;k1 0;s1 0;k2 0;s2 1;p0 1 2;k3 0;s3 0;", 8).dueCounts(4, 4, 1);
        // The CORNERS of the text that was told ahead are no longer there.
        Run t = Run.told(NINE);
        t.types("k0 0;s0 1;");
        t.due(t.plate(), -10 - 8);
    }

    private static void numbers() {
        Run.says("a NUMBER above 99 or with a 0 ahead of others");
        sound("h0;k0 0;", 2);
        sound("h10;k10 20;", 2);
        faulty("h^00;");
        faulty("h^01;");
        faulty("h^020;");
        faulty("k^00 0;");
        faulty("k0 ^00;");
        faulty("k^01 1;");
        faulty("k1 ^01;");
        faulty(THREE + "s^00 1;");
        faulty(THREE + "s0 ^01;");
        faulty(THREE + "p0 1 ^02;");
        faulty("h^100;");
        faulty("h^200;");
        faulty("h^999");
        faulty("k^100 0;");
        faulty("k0 ^101;");
        faulty(THREE + "s0 ^100;");
        // What would be small again, if it ran over.
        faulty("h^4294967296;");
        faulty("h^4294967301;");
        faulty("h^18446744073709551617;");
        faulty("k^256 0;");
        faulty("h^" + "0".repeat(109));
        faulty("h^" + "1".repeat(109));
        faulty("^0;");
        faulty("^100");
    }

    private static void wrongItems() {
        Run.says("the first TOKEN that can't stand there");
        faulty("^;");
        faulty("^5;");
        faulty("k0 0;^;");
        faulty("k0 0; ^1;");
        faulty("h^;");
        faulty("h^k;");
        faulty("h5^h;");
        faulty("h5 ^k1 1;");
        faulty("k^;");
        faulty("k^k1 1;");
        faulty("k1^;");
        faulty("k1^s;");
        faulty("k1 1^k2 2;");
        faulty("k1 1 ^1;");
        faulty(THREE + "p^p0 1 2;");
        faulty(THREE + "p0 1^s2;");
        faulty(THREE + "p0 1 2^h;");
        faulty(THREE + "s^s0 1;");
        faulty(THREE + "s0^k1;");
        faulty(THREE + "s0 1^p;");
        for (String letter : new String[] {"H", "K", "P", "S", "x", "a", ":", ",", ".", "-", "+", "/", "\n"}) {
            faulty("k0 0;^" + letter + "0 1;");
            faulty("k0 ^" + letter + "1;");
        }
    }

    private static void endsTooEarly() {
        Run.says("the text's length, if it ends too early");
        String[] items = {"h10;", "k11 12;", "p0 1 2 3;", "s0 1;"};
        for (String item : items) {
            String ahead = item.charAt(0) == 'h' || item.charAt(0) == 'k' ? "" : SIX;
            for (int end = 1; end < item.length(); end++) {
                faulty(ahead + item.substring(0, end) + "^");
                faulty(ahead + item.substring(0, end) + "  ^");
            }
            faulty(ahead + item + " k^");
        }
    }

    private static void firstFault() {
        Run.says("FAULT: .. of the first TOKEN");
        faulty("^x;h99;k21 0;");
        faulty("h^99;x");
        faulty("h1;^h1;x");
        faulty("k^21 99;x");
        faulty("h1;k^x");
        faulty("h^021 h");
        faulty("k1 1;k1 ^1;k1 1;;");
        faulty(THREE + "s0 ^0;s9 9;");
        faulty(NINE + "^k21 21;");
        faulty("k0^h");
    }

    private static void itemCount() {
        Run.says("how many ITEMS");
        sound("", 0);
        sound("h5;", 1);
        sound("k0 0;k0 1;" + "s0 1;".repeat(20), 22).dueCounts(2, 1);
        sound("h0;" + THREE + "p0 1 2;s0 1;", 6).dueCounts(3, 3, 1);
    }

    /** What a faulty text had told ahead of its FAULT must not come back with the next text. */
    private static void faultyThenSound() {
        Run.says("-10 less FAULT: nothing changes.");
        Run t = Run.typed("h20;" + NINE + "p0 1 2 3 4;p5 6 7;s0 8;x");
        t.due(t.plate(), -10 - 72);
        t.dueCounts(0, 0, 0, 0, 0, NONE, 0, 0, 0, 73, 0);
        t.due(t.plate(), -10 - 72);
        t.clear();
        t.types("k4 4;k5 5;");
        t.due(t.plate(), 2);
        t.dueCounts(2, 0, 0, 0, 0, 0, 0, 0, 0, 0, 0);
        // More letters can make a text sound that ended too early.
        Run more = Run.typed("k1 1");
        more.due(more.plate(), -14);
        more.types(";");
        more.due(more.plate(), 1);
    }

    private static void toldAnew() {
        Run.says("THE TEXT tells all anew, and is empty then; Read anew: as told, nothing can be UNDONE, nothing SEEN,"
                + " IMAGES are gone");
        for (String text : new String[] {"", " ", "h5;", "k7 7;", "k0 0;k4 0;k0 4;p0 1 2;", NINE + "p8 7 6 5;s0 1;"}) {
            Twins.alike(run -> run.tells(text), run -> {
                busy(run);
                run.tells(text);
            });
        }
    }
}
