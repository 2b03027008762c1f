import java.util.Arrays;

/**
 * A router of a torch over a plate: see README.md for its use and ../shared/DOC.md for its promises.
 * All rows are made once with the object and used again, so that no call makes anything new.
 */
public final class TorchPlate {
    public static final int BAD = -1, STATE = -2, FULL = -3, NONE = -9;

    private static final int MOST_LETTERS = 110;
    private static final int MOST_LETTER = 255;
    private static final int MOST_CORNERS = 9;
    private static final int MOST_CUTS = 14;
    private static final int MOST_PARTS = 4;
    private static final int LEAST_RING = 3;
    private static final int MOST_RING = 5;
    private static final int MOST_PLACE = 20;
    private static final int MOST_HEAT = 20;
    private static final int MOST_UNDONE = 10;
    private static final int MOST_SEEN = 6;
    private static final int IMAGES = 2;
    /** A piece has two corners at least. */
    private static final int MOST_PIECES = MOST_CORNERS / 2;
    /** A link takes two corners for itself. */
    private static final int MOST_LINKS = MOST_CORNERS / 2;
    private static final int MOST_STEPS = MOST_CUTS + MOST_LINKS;
    private static final int NO_FAULT = -1;
    private static final int FAULT_BASE = -10;
    /** Above every sum of ways that a plate can have. */
    private static final int NO_WAY = 1000000;

    private final int[] letters = new int[MOST_LETTERS];
    private int length = 0;
    private Plate plate = new Plate();
    private Plate draft = new Plate();
    private final Reader reader = new Reader();
    private final Plight now = new Plight();
    private final Past past = new Past();
    private final Plight[] images = new Plight[IMAGES];
    private int keptImages = 0;
    private final Survey survey = new Survey();
    private final Walk walk = new Walk();
    private final Witness witness = new Witness();

    public TorchPlate() {
        for (int image = 0; image < IMAGES; image++) {
            images[image] = new Plight();
        }
        now.beginOn(plate);
    }

    // ---- the plate

    public int type(int letter) {
        if (letter < 0 || letter > MOST_LETTER) {
            return BAD;
        }
        if (length < 0 || length >= MOST_LETTERS) {
            return FULL;
        }
        letters[length] = letter;
        length++;
        return length;
    }

    public int clear() {
        int had = length;
        length = 0;
        return had;
    }

    public int plate() {
        int fault = reader.read(letters, length, draft);
        if (fault != NO_FAULT) {
            return FAULT_BASE - fault;
        }
        Plate old = plate;
        plate = draft;
        draft = old;
        length = 0;
        now.beginOn(plate);
        past.lose();
        witness.lose();
        keptImages = 0;
        outdate();
        return plate.items;
    }

    public int corner(int k, int what) {
        if (!plate.hasCorner(k)) {
            return BAD;
        }
        switch (what) {
            case 0: return plate.x[k];
            case 1: return plate.y[k];
            case 2: return plate.cutsAt(k, now.left);
            case 3: return now.burntAt[k];
            default: return BAD;
        }
    }

    public int cut(int c, int what) {
        if (c < 0 || c >= plate.cuts) {
            return BAD;
        }
        switch (what) {
            case 0: return plate.low[c];
            case 1: return plate.high[c];
            case 2: return has(now.left, c) ? 1 : 0;
            case 3: return surveyed().pieceOf(c);
            case 4: return plate.way(plate.low[c], plate.high[c]);
            default: return BAD;
        }
    }

    public int part(int p, int what) {
        if (p < 0 || p >= plate.parts) {
            return BAD;
        }
        switch (what) {
            case 0: return plate.ringSize[p];
            case 1: return Integer.bitCount(plate.ringCuts[p] & now.left);
            case 2: return plate.within[p];
            default: return BAD;
        }
    }

    // ---- what is done

    public int burns(int to) {
        if (!plate.hasCorner(to) || to == now.torch) {
            return BAD;
        }
        return burnTo(to) ? now.time : STATE;
    }

    public int moves(int to) {
        if (!plate.hasCorner(to) || to == now.torch) {
            return BAD;
        }
        moveTo(to);
        return now.time;
    }

    public int follows() {
        if (now.left == 0) {
            return STATE;
        }
        Survey seen = surveyed();
        if (seen.tourWay >= NO_WAY) {
            return STATE;
        }
        int first = seen.order[0];
        int start = seen.startOf(first);
        if (start != now.torch) {
            moveTo(start);
            return now.torch;
        }
        walk.go(plate, seen, first);
        return burnTo(walk.to[0]) ? now.torch : STATE;
    }

    public int undo() {
        if (!past.restore(now)) {
            return STATE;
        }
        outdate();
        return past.size;
    }

    // ---- pieces, rounds, the tour

    public int piece(int p, int what) {
        Survey seen = surveyed();
        if (!seen.hasPiece(p)) {
            return BAD;
        }
        switch (what) {
            case 0: return seen.cuts[p];
            case 1: return seen.odd[p];
            case 2: return seen.linkWay[p];
            case 3: return seen.stepsOf(p);
            case 4: return seen.ahead[p];
            default: return BAD;
        }
    }

    public int link(int k) {
        return plate.hasCorner(k) ? surveyed().partner[k] : BAD;
    }

    public int round(int p, int k, int what) {
        Survey seen = surveyed();
        if (!seen.hasPiece(p) || k < 0 || what < 0 || what > 1) {
            return BAD;
        }
        walk.go(plate, seen, p);
        if (k >= walk.steps) {
            return NONE;
        }
        return what == 0 ? walk.to[k] : walk.byCut[k];
    }

    public int tour(int k) {
        if (k < -1) {
            return BAD;
        }
        Survey seen = surveyed();
        if (seen.tourWay >= NO_WAY) {
            return NONE;
        }
        if (k == -1) {
            return seen.idle();
        }
        return seen.hasPiece(k) ? seen.order[k] : NONE;
    }

    // ---- which cut

    public int sees(int a, int b, int together) {
        if (!plate.hasCorner(a) || !plate.hasCorner(b) || together < 0 || together > 1) {
            return BAD;
        }
        return witness.add(a, b, together) ? witness.size : FULL;
    }

    public int forget() {
        int had = witness.size;
        witness.lose();
        return had;
    }

    public int unseen() {
        return witness.suspects(plate, now.left);
    }

    public int ask() {
        return witness.bestQuestion(plate, now.left);
    }

    // ---- images

    public int keep(int image) {
        if (image < 0 || image >= IMAGES) {
            return BAD;
        }
        images[image].become(now);
        keptImages |= 1 << image;
        return now.time;
    }

    public int back(int image) {
        if (image < 0 || image >= IMAGES) {
            return BAD;
        }
        if (!has(keptImages, image)) {
            return STATE;
        }
        now.become(images[image]);
        past.lose();
        outdate();
        return now.time;
    }

    public int count(int what) {
        switch (what) {
            case 0: return plate.corners;
            case 1: return plate.cuts;
            case 2: return plate.parts;
            case 3: return plate.heat;
            case 4: return Integer.bitCount(now.left);
            case 5: return now.torch;
            case 6: return now.time;
            case 7: return surveyed().pieces;
            case 8: return witness.size;
            case 9: return length;
            case 10: return past.size;
            default: return BAD;
        }
    }

    // ---- shared by the calls

    private boolean burnTo(int to) {
        int cut = plate.cutBetween(now.torch, to);
        if (cut == NONE || !has(now.left, cut) || !now.mayLose(cut, plate)) {
            return false;
        }
        past.remember(now);
        now.burn(cut, to, plate);
        outdate();
        return true;
    }

    private void moveTo(int to) {
        past.remember(now);
        now.move(to, plate);
        outdate();
    }

    private Survey surveyed() {
        survey.look(plate, now);
        return survey;
    }

    /** What was worked out of things as they were is no longer so. */
    private void outdate() {
        survey.fresh = false;
        walk.piece = NONE;
    }

    private static boolean has(int bits, int k) {
        return (bits >> k & 1) != 0;
    }

    /** What the text tells: corners, cuts, parts and heat. */
    private static final class Plate {
        int corners = 0;
        final int[] x = new int[MOST_CORNERS];
        final int[] y = new int[MOST_CORNERS];
        /** Of each corner, the corners (bits) to which a cut goes from it. */
        final int[] joined = new int[MOST_CORNERS];
        int cuts = 0;
        final int[] low = new int[MOST_CUTS];
        final int[] high = new int[MOST_CUTS];
        int parts = 0;
        final int[] ringSize = new int[MOST_PARTS];
        final int[][] ring = new int[MOST_PARTS][MOST_RING];
        final int[] ringCuts = new int[MOST_PARTS];
        final int[] within = new int[MOST_PARTS];
        int heat = 0;
        int items = 0;

        void wipe() {
            corners = 0;
            cuts = 0;
            parts = 0;
            heat = 0;
            items = 0;
            Arrays.fill(joined, 0);
        }

        boolean hasCorner(int k) {
            return k >= 0 && k < corners && k < MOST_CORNERS;
        }

        int way(int a, int b) {
            if (!hasCorner(a) || !hasCorner(b)) {
                return 0;
            }
            return Math.abs(x[a] - x[b]) + Math.abs(y[a] - y[b]);
        }

        boolean addCorner(int atX, int atY) {
            if (corners >= MOST_CORNERS) {
                return false;
            }
            for (int k = 0; k < corners; k++) {
                if (x[k] == atX && y[k] == atY) {
                    return false;
                }
            }
            x[corners] = atX;
            y[corners] = atY;
            corners++;
            return true;
        }

        /** False: there is no room for one more cut. */
        boolean join(int a, int b) {
            if (!hasCorner(a) || !hasCorner(b)) {
                return false;
            }
            if (has(joined[a], b)) {
                return true;
            }
            if (cuts >= MOST_CUTS) {
                return false;
            }
            joined[a] |= 1 << b;
            joined[b] |= 1 << a;
            cuts++;
            return true;
        }

        /** Cuts have their numbers, and parts their cuts, only when all is told. */
        void settle() {
            numberCuts();
            for (int p = 0; p < parts; p++) {
                ringCuts[p] = cutsOfRing(p);
            }
            for (int p = 0; p < parts; p++) {
                within[p] = partsAround(p);
            }
        }

        private void numberCuts() {
            int c = 0;
            for (int a = 0; a < corners; a++) {
                for (int b = a + 1; b < corners; b++) {
                    if (has(joined[a], b) && c < MOST_CUTS) {
                        low[c] = a;
                        high[c] = b;
                        c++;
                    }
                }
            }
        }

        private int cutsOfRing(int p) {
            int bits = 0;
            for (int i = 0; i < ringSize[p]; i++) {
                int c = cutBetween(ring[p][i], ring[p][nextInRing(p, i)]);
                if (c != NONE) {
                    bits |= 1 << c;
                }
            }
            return bits;
        }

        private int nextInRing(int p, int i) {
            return i + 1 < ringSize[p] ? i + 1 : 0;
        }

        int cutBetween(int a, int b) {
            int lower = Math.min(a, b);
            int other = Math.max(a, b);
            for (int c = 0; c < cuts; c++) {
                if (low[c] == lower && high[c] == other) {
                    return c;
                }
            }
            return NONE;
        }

        private int partsAround(int p) {
            int bits = 0;
            for (int q = 0; q < parts; q++) {
                if (q != p && goesRound(q, ring[p][0])) {
                    bits |= 1 << q;
                }
            }
            return bits;
        }

        /** A ring's corners lie on its cuts, so that they need no look of their own. */
        private boolean goesRound(int p, int k) {
            int turns = 0;
            for (int i = 0; i < ringSize[p]; i++) {
                int a = ring[p][i];
                int b = ring[p][nextInRing(p, i)];
                if (liesOn(k, a, b)) {
                    return false;
                }
                turns += crossing(k, a, b);
            }
            return turns != 0;
        }

        private boolean liesOn(int k, int a, int b) {
            return side(k, a, b) == 0
                    && x[k] >= Math.min(x[a], x[b]) && x[k] <= Math.max(x[a], x[b])
                    && y[k] >= Math.min(y[a], y[b]) && y[k] <= Math.max(y[a], y[b]);
        }

        /** How a way from a to b crosses the ray that goes right from k: upwards 1, downwards -1. */
        private int crossing(int k, int a, int b) {
            if (y[a] <= y[k] && y[b] > y[k] && side(k, a, b) > 0) {
                return 1;
            }
            if (y[a] > y[k] && y[b] <= y[k] && side(k, a, b) < 0) {
                return -1;
            }
            return 0;
        }

        private int side(int k, int a, int b) {
            return (x[b] - x[a]) * (y[k] - y[a]) - (x[k] - x[a]) * (y[b] - y[a]);
        }

        int cutsAt(int k, int left) {
            int sum = 0;
            for (int c = 0; c < cuts; c++) {
                if (has(left, c) && (low[c] == k || high[c] == k)) {
                    sum++;
                }
            }
            return sum;
        }
    }

    /** Reads a text into a plate, token by token, up to its first fault. */
    private static final class Reader {
        private static final int END = 0;
        private static final int NUMBER = 1;
        private static final int WRONG = 2;
        private static final int NO_ITEM = 0;

        private int place = 0;
        private int next = 0;
        private int token = END;
        private int value = 0;
        private int item = NO_ITEM;
        /** Numbers of the item so far. */
        private int told = 0;
        private int first = 0;
        private int last = 0;
        private boolean heatTold = false;

        int read(int[] letters, int length, Plate into) {
            next = 0;
            item = NO_ITEM;
            heatTold = false;
            into.wipe();
            for (int guard = 0; guard <= length; guard++) {
                readToken(letters, length);
                if (token == END) {
                    break;
                }
                if (!takesToken(into)) {
                    return place;
                }
            }
            if (item != NO_ITEM) {
                return length;
            }
            into.settle();
            return NO_FAULT;
        }

        private void readToken(int[] letters, int length) {
            int end = Math.min(length, letters.length);
            while (next < end && letters[next] == ' ') {
                next++;
            }
            place = next;
            if (next >= end) {
                token = END;
                return;
            }
            int letter = letters[next];
            if (isDigit(letter)) {
                readNumber(letters, end);
                return;
            }
            next++;
            boolean known = letter == 'h' || letter == 'k' || letter == 'p' || letter == 's' || letter == ';';
            token = known ? letter : WRONG;
        }

        private void readNumber(int[] letters, int end) {
            value = 0;
            int digits = 0;
            boolean zeroAhead = letters[next] == '0';
            while (next < end && isDigit(letters[next])) {
                // Further digits make the number wrong anyway, and would run over.
                if (digits < 2) {
                    value = value * 10 + letters[next] - '0';
                }
                digits++;
                next++;
            }
            boolean right = digits == 1 || digits == 2 && !zeroAhead;
            token = right ? NUMBER : WRONG;
        }

        private static boolean isDigit(int letter) {
            return letter >= '0' && letter <= '9';
        }

        private boolean takesToken(Plate into) {
            if (item == NO_ITEM) {
                return beginsItem(into);
            }
            if (token == ';') {
                return endsItem(into);
            }
            if (token != NUMBER || !takesNumber(into)) {
                return false;
            }
            last = value;
            if (told == 0) {
                first = value;
            }
            told++;
            return true;
        }

        private boolean beginsItem(Plate into) {
            item = token;
            told = 0;
            switch (token) {
                case 'h': return !heatTold;
                case 'k': return into.corners < MOST_CORNERS;
                case 'p': return into.parts < MOST_PARTS;
                case 's': return true;
                default: return false;
            }
        }

        private boolean takesNumber(Plate into) {
            switch (item) {
                case 'h': return takesHeat(into);
                case 'k': return takesPlace(into);
                case 'p': return takesRingCorner(into);
                case 's': return takesSeamCorner(into);
                default: return false;
            }
        }

        private boolean takesHeat(Plate into) {
            if (told > 0 || value > MOST_HEAT) {
                return false;
            }
            into.heat = value;
            heatTold = true;
            return true;
        }

        private boolean takesPlace(Plate into) {
            if (told > 1 || value > MOST_PLACE) {
                return false;
            }
            return told == 0 || into.addCorner(first, value);
        }

        private boolean takesRingCorner(Plate into) {
            int p = into.parts;
            if (p >= MOST_PARTS || told >= MOST_RING || !into.hasCorner(value)) {
                return false;
            }
            for (int i = 0; i < told; i++) {
                if (into.ring[p][i] == value) {
                    return false;
                }
            }
            into.ring[p][told] = value;
            return told == 0 || into.join(last, value);
        }

        private boolean takesSeamCorner(Plate into) {
            if (told > 1 || !into.hasCorner(value)) {
                return false;
            }
            return told == 0 || value != first && into.join(first, value);
        }

        private boolean endsItem(Plate into) {
            boolean whole = item == 'p' ? endsRing(into) : told == (item == 'h' ? 1 : 2);
            if (whole) {
                item = NO_ITEM;
                into.items++;
            }
            return whole;
        }

        private boolean endsRing(Plate into) {
            if (into.parts >= MOST_PARTS || told < LEAST_RING || !into.join(last, first)) {
                return false;
            }
            into.ringSize[into.parts] = told;
            into.parts++;
            return true;
        }
    }

    /** How things are on the plate: all that acts change, and images keep. */
    private static final class Plight {
        int left = 0;
        int torch = NONE;
        int time = 0;
        /** Whether a cut has ended where the torch is, and nothing came after it. */
        boolean justEnded = false;
        final int[] burntAt = new int[MOST_CORNERS];

        void beginOn(Plate plate) {
            left = (1 << plate.cuts) - 1;
            torch = plate.corners > 0 ? 0 : NONE;
            time = 0;
            justEnded = false;
            Arrays.fill(burntAt, NONE);
        }

        void become(Plight other) {
            left = other.left;
            torch = other.torch;
            time = other.time;
            justEnded = other.justEnded;
            System.arraycopy(other.burntAt, 0, burntAt, 0, MOST_CORNERS);
        }

        void move(int to, Plate plate) {
            time += plate.way(torch, to);
            torch = to;
            justEnded = false;
        }

        void burn(int cut, int to, Plate plate) {
            if (!plate.hasCorner(torch) || !plate.hasCorner(to)) {
                return;
            }
            int begin = beginOfBurn(to, plate);
            burntAt[torch] = begin;
            time = begin + plate.way(torch, to);
            burntAt[to] = time;
            left &= ~(1 << cut);
            torch = to;
            justEnded = true;
        }

        private int beginOfBurn(int to, Plate plate) {
            int toBegin = coolAt(to, plate.heat) - plate.way(torch, to);
            // Only a cut that waits for nothing goes on just when the last one ended.
            if (justEnded && toBegin <= time) {
                return time;
            }
            return Math.max(Math.max(time, toBegin), coolAt(torch, plate.heat));
        }

        private int coolAt(int k, int heat) {
            return burntAt[k] == NONE ? 0 : burntAt[k] + heat;
        }

        /** False: an outer part would fall ahead of what is in it. */
        boolean mayLose(int cut, Plate plate) {
            int then = left & ~(1 << cut);
            for (int inner = 0; inner < plate.parts; inner++) {
                if ((plate.ringCuts[inner] & then) == 0) {
                    continue;
                }
                for (int outer = 0; outer < plate.parts; outer++) {
                    if (has(plate.within[inner], outer) && (plate.ringCuts[outer] & then) == 0) {
                        return false;
                    }
                }
            }
            return true;
        }
    }

    /** How things were ahead of the latest acts; the oldest one gives way to a new one. */
    private static final class Past {
        private final Plight[] rows = new Plight[MOST_UNDONE];
        private int next = 0;
        int size = 0;

        Past() {
            for (int i = 0; i < MOST_UNDONE; i++) {
                rows[i] = new Plight();
            }
        }

        void lose() {
            size = 0;
        }

        void remember(Plight plight) {
            rows[next].become(plight);
            next = next + 1 < MOST_UNDONE ? next + 1 : 0;
            size = Math.min(size + 1, MOST_UNDONE);
        }

        boolean restore(Plight into) {
            if (size <= 0) {
                return false;
            }
            next = next > 0 ? next - 1 : MOST_UNDONE - 1;
            size--;
            into.become(rows[next]);
            return true;
        }
    }

    /** What hangs together: of each corner, those (bits) to which a cut goes, and those to which a link. */
    private static final class Web {
        final int[] cuts = new int[MOST_CORNERS];
        final int[] links = new int[MOST_CORNERS];

        void lay(Plate plate, int bits) {
            Arrays.fill(cuts, 0);
            Arrays.fill(links, 0);
            for (int c = 0; c < plate.cuts; c++) {
                if (has(bits, c)) {
                    turn(cuts, plate.low[c], plate.high[c]);
                }
            }
        }

        /** What was tied is loosed, what was loose is tied. */
        static void turn(int[] rows, int a, int b) {
            if (a >= 0 && a < rows.length && b >= 0 && b < rows.length) {
                rows[a] ^= 1 << b;
                rows[b] ^= 1 << a;
            }
        }

        /** The corners (bits) that hang together with one, itself among them. */
        int reach(int from) {
            int found = 1 << from;
            int rim = found;
            for (int i = 0; i < MOST_CORNERS && rim != 0; i++) {
                int beyond = 0;
                for (int k = 0; k < MOST_CORNERS; k++) {
                    if (has(rim, k)) {
                        beyond |= cuts[k] | links[k];
                    }
                }
                rim = beyond & ~found;
                found |= beyond;
            }
            return found;
        }

        boolean allReachedFrom(int from) {
            int reached = reach(from);
            for (int k = 0; k < MOST_CORNERS; k++) {
                if ((cuts[k] | links[k]) != 0 && !has(reached, k)) {
                    return false;
                }
            }
            return true;
        }
    }

    /** The pieces of what is left, their links, and the tour over them. */
    private static final class Survey {
        boolean fresh = false;
        int pieces = 0;
        final int[] cuts = new int[MOST_PIECES];
        final int[] corners = new int[MOST_PIECES];
        final int[] odd = new int[MOST_PIECES];
        final int[] start = new int[MOST_PIECES];
        final int[] linkWay = new int[MOST_PIECES];
        final int[] ahead = new int[MOST_PIECES];
        final int[] partner = new int[MOST_CORNERS];
        final int[] order = new int[MOST_PIECES];
        /** NO_WAY: there is no tour. */
        int tourWay = 0;
        private final Web web = new Web();

        void look(Plate plate, Plight now) {
            if (fresh) {
                return;
            }
            findPieces(plate, now);
            Arrays.fill(partner, NONE);
            for (int p = 0; p < pieces; p++) {
                linkWay[p] = leastPairs(plate, odd[p], 0);
                pairUp(plate, odd[p], linkWay[p]);
                ahead[p] = piecesAhead(plate, p);
            }
            findTour(plate, now.torch);
            fresh = true;
        }

        boolean hasPiece(int p) {
            return p >= 0 && p < pieces && p < MOST_PIECES;
        }

        int startOf(int p) {
            return hasPiece(p) ? start[p] : NONE;
        }

        int stepsOf(int p) {
            return hasPiece(p) ? Integer.bitCount(cuts[p]) + Integer.bitCount(odd[p]) / 2 : 0;
        }

        int pieceOf(int cut) {
            for (int p = 0; p < pieces; p++) {
                if (has(cuts[p], cut)) {
                    return p;
                }
            }
            return NONE;
        }

        int idle() {
            int sum = tourWay;
            for (int p = 0; p < pieces; p++) {
                sum += linkWay[p];
            }
            return sum;
        }

        private void findPieces(Plate plate, Plight now) {
            pieces = 0;
            web.lay(plate, now.left);
            int found = 0;
            for (int k = 0; k < plate.corners; k++) {
                if (web.cuts[k] != 0 && !has(found, k) && pieces < MOST_PIECES) {
                    corners[pieces] = web.reach(k);
                    found |= corners[pieces];
                    cuts[pieces] = cutsAmong(plate, now.left, corners[pieces]);
                    odd[pieces] = oddAmong(corners[pieces]);
                    boolean torchOnIt = now.torch >= 0 && has(corners[pieces], now.torch);
                    start[pieces] = torchOnIt ? now.torch : k;
                    pieces++;
                }
            }
        }

        private static int cutsAmong(Plate plate, int left, int bits) {
            int among = 0;
            for (int c = 0; c < plate.cuts; c++) {
                if (has(left, c) && has(bits, plate.low[c])) {
                    among |= 1 << c;
                }
            }
            return among;
        }

        private int oddAmong(int bits) {
            int among = 0;
            for (int k = 0; k < MOST_CORNERS; k++) {
                if (has(bits, k) && (Integer.bitCount(web.cuts[k]) & 1) == 1) {
                    among |= 1 << k;
                }
            }
            return among;
        }

        private static int leastPairs(Plate plate, int rest, int depth) {
            if (rest == 0 || depth >= MOST_LINKS) {
                return 0;
            }
            int lowest = Integer.numberOfTrailingZeros(rest);
            int others = rest & ~(1 << lowest);
            int least = NO_WAY;
            for (int k = 0; k < MOST_CORNERS; k++) {
                if (has(others, k)) {
                    int sum = plate.way(lowest, k) + leastPairs(plate, others & ~(1 << k), depth + 1);
                    least = Math.min(least, sum);
                }
            }
            return least;
        }

        private void pairUp(Plate plate, int all, int least) {
            int rest = all;
            int due = least;
            for (int pair = 0; pair < MOST_LINKS && rest != 0; pair++) {
                int lowest = Integer.numberOfTrailingZeros(rest);
                int others = rest & ~(1 << lowest);
                for (int k = 0; k < MOST_CORNERS; k++) {
                    int behind = others & ~(1 << k);
                    if (has(others, k) && lowest < MOST_CORNERS
                            && plate.way(lowest, k) + leastPairs(plate, behind, pair + 1) == due) {
                        partner[lowest] = k;
                        partner[k] = lowest;
                        due -= plate.way(lowest, k);
                        rest = behind;
                        break;
                    }
                }
            }
        }

        private int piecesAhead(Plate plate, int p) {
            int around = partsIn(plate, p);
            int bits = 0;
            for (int q = 0; q < pieces; q++) {
                if (q != p && isAnyWithin(plate, partsIn(plate, q), around)) {
                    bits |= 1 << q;
                }
            }
            return bits;
        }

        private int partsIn(Plate plate, int p) {
            int bits = 0;
            for (int part = 0; part < plate.parts; part++) {
                if ((plate.ringCuts[part] & cuts[p]) != 0) {
                    bits |= 1 << part;
                }
            }
            return bits;
        }

        private static boolean isAnyWithin(Plate plate, int inner, int outer) {
            for (int part = 0; part < plate.parts; part++) {
                if (has(inner, part) && (plate.within[part] & outer) != 0) {
                    return true;
                }
            }
            return false;
        }

        private void findTour(Plate plate, int torch) {
            int rest = (1 << pieces) - 1;
            tourWay = leastTour(plate, this, torch, rest, 0);
            int due = tourWay;
            int at = torch;
            for (int i = 0; i < pieces && due < NO_WAY; i++) {
                for (int p = 0; p < pieces; p++) {
                    int behind = rest & ~(1 << p);
                    if (mayBeNext(p, rest)
                            && plate.way(at, start[p]) + leastTour(plate, this, start[p], behind, i + 1) == due) {
                        order[i] = p;
                        due -= plate.way(at, start[p]);
                        at = start[p];
                        rest = behind;
                        break;
                    }
                }
            }
        }

        private boolean mayBeNext(int p, int rest) {
            return has(rest, p) && (ahead[p] & rest) == 0;
        }

        private static int leastTour(Plate plate, Survey of, int from, int rest, int depth) {
            if (rest == 0 || depth >= MOST_PIECES) {
                return 0;
            }
            int least = NO_WAY;
            for (int p = 0; p < of.pieces; p++) {
                if (of.mayBeNext(p, rest)) {
                    int behind = rest & ~(1 << p);
                    int sum = plate.way(from, of.start[p]) + leastTour(plate, of, of.start[p], behind, depth + 1);
                    least = Math.min(least, sum);
                }
            }
            return least;
        }
    }

    /** The round of one piece. */
    private static final class Walk {
        /** Whose round it is; NONE: nobody's. */
        int piece = NONE;
        int steps = 0;
        final int[] to = new int[MOST_STEPS];
        final int[] byCut = new int[MOST_STEPS];
        private final Web web = new Web();

        void go(Plate plate, Survey survey, int p) {
            if (piece == p || !survey.hasPiece(p)) {
                return;
            }
            layOut(plate, survey, p);
            int due = Math.min(survey.stepsOf(p), MOST_STEPS);
            int at = survey.startOf(p);
            steps = 0;
            while (steps < due && takesStep(at)) {
                at = to[steps];
                steps++;
            }
            piece = p;
        }

        private void layOut(Plate plate, Survey survey, int p) {
            web.lay(plate, survey.cuts[p]);
            for (int k = 0; k < MOST_CORNERS; k++) {
                // Each link is met at both of its corners, and laid at the lower one.
                if (has(survey.odd[p], k) && survey.partner[k] > k) {
                    Web.turn(web.links, k, survey.partner[k]);
                }
            }
        }

        /** As long as all that remains hangs together with where the walk is, it can be ended at its start. */
        private boolean takesStep(int at) {
            if (at < 0 || at >= MOST_CORNERS || steps >= MOST_STEPS) {
                return false;
            }
            for (int k = 0; k < MOST_CORNERS; k++) {
                if (takesTie(web.cuts, at, k)) {
                    return notes(k, 1);
                }
                if (steps > 0 && takesTie(web.links, at, k)) {
                    return notes(k, 0);
                }
            }
            return false;
        }

        private boolean takesTie(int[] rows, int at, int k) {
            if (!has(rows[at], k)) {
                return false;
            }
            Web.turn(rows, at, k);
            if (web.allReachedFrom(k)) {
                return true;
            }
            Web.turn(rows, at, k);
            return false;
        }

        private boolean notes(int k, int cut) {
            to[steps] = k;
            byCut[steps] = cut;
            return true;
        }
    }

    /** What was seen of one unknown cut. */
    private static final class Witness {
        int size = 0;
        private final int[] one = new int[MOST_SEEN];
        private final int[] other = new int[MOST_SEEN];
        private final int[] together = new int[MOST_SEEN];
        private final int[] tally = new int[MOST_CORNERS * MOST_CORNERS];
        private final Web web = new Web();

        void lose() {
            size = 0;
        }

        boolean add(int a, int b, int hangs) {
            if (size < 0 || size >= MOST_SEEN) {
                return false;
            }
            one[size] = a;
            other[size] = b;
            together[size] = hangs;
            size++;
            return true;
        }

        int suspects(Plate plate, int left) {
            int bits = 0;
            for (int c = 0; c < plate.cuts; c++) {
                if (has(left, c)) {
                    web.lay(plate, left & ~(1 << c));
                    if (allIsAsSeen()) {
                        bits |= 1 << c;
                    }
                }
            }
            return bits;
        }

        private boolean allIsAsSeen() {
            for (int i = 0; i < size; i++) {
                int hangs = has(web.reach(one[i]), other[i]) ? 1 : 0;
                if (hangs != together[i]) {
                    return false;
                }
            }
            return true;
        }

        int bestQuestion(Plate plate, int left) {
            int bits = suspects(plate, left);
            int all = Integer.bitCount(bits);
            if (all <= 1) {
                return NONE;
            }
            tallyPairs(plate, left, bits);
            int best = NONE;
            int least = NO_WAY;
            for (int a = 0; a < plate.corners; a++) {
                for (int b = a + 1; b < plate.corners; b++) {
                    int hanging = tally[a * MOST_CORNERS + b];
                    int greater = Math.max(hanging, all - hanging);
                    if (greater < least) {
                        least = greater;
                        best = 16 * a + b;
                    }
                }
            }
            return best;
        }

        /** Of each two corners, by how many of the cuts they would hang together. */
        private void tallyPairs(Plate plate, int left, int bits) {
            Arrays.fill(tally, 0);
            for (int c = 0; c < plate.cuts; c++) {
                if (has(bits, c)) {
                    web.lay(plate, left & ~(1 << c));
                    for (int a = 0; a < plate.corners; a++) {
                        countReached(a, plate.corners);
                    }
                }
            }
        }

        private void countReached(int a, int corners) {
            int reached = web.reach(a);
            for (int b = a + 1; b < corners; b++) {
                if (has(reached, b)) {
                    tally[a * MOST_CORNERS + b]++;
                }
            }
        }
    }
}
