import java.util.ArrayDeque;
import java.util.ArrayList;
import java.util.Collections;
import java.util.Deque;
import java.util.HashMap;
import java.util.HashSet;
import java.util.List;
import java.util.Map;
import java.util.Random;
import java.util.Set;
import java.util.TreeSet;

/**
 * Plays random runs of calls on TorchPlate and on a slow model that follows the document's words by trying
 * everything out (all pairings, all orders, all walks, each moment), and compares every answer.
 */
public final class ModelTest {
    private static final int OBJECTS = 6000;
    private static final int MOST_CALLS = 512;
    private static int wrong = 0;

    public static void main(String[] args) {
        for (int seed = 0; seed < OBJECTS && wrong == 0; seed++) {
            new Play(seed).run();
        }
        System.out.println(wrong == 0 ? "model: all answers agree" : "model: answers differ");
        if (wrong != 0) {
            System.exit(1);
        }
    }

    private static final class Play {
        final Random random;
        final int seed;
        final TorchPlate real = new TorchPlate();
        final Model model = new Model();
        final List<String> told = new ArrayList<>();
        int calls = 0;

        Play(int seed) {
            this.seed = seed;
            this.random = new Random(seed);
        }

        boolean over() {
            return calls >= MOST_CALLS || wrong != 0;
        }

        void same(String call, int got, int due) {
            calls++;
            told.add(call + " = " + got);
            if (got != due && wrong == 0) {
                wrong++;
                System.out.println("seed " + seed + ": " + String.join("; ", told) + " but the model says " + due);
            }
        }

        void run() {
            tell(random.nextInt(4) == 0 ? Texts.broken(random) : Texts.sound(random));
            while (!over()) {
                step();
            }
        }

        void tell(String text) {
            for (int i = 0; i < text.length() && !over(); i++) {
                int letter = text.charAt(i);
                same("type(" + letter + ")", real.type(letter), model.type(letter));
            }
            if (!over()) {
                same("plate()", real.plate(), model.plate());
            }
        }

        int near(int bound) {
            switch (random.nextInt(60)) {
                case 0: case 1: case 2: return random.nextInt(bound + 4) - 2;
                case 3: return random.nextInt() >> random.nextInt(32);
                default: return random.nextInt(Math.max(1, bound));
            }
        }

        void step() {
            switch (random.nextInt(40)) {
                case 0: case 1: case 2: case 3: case 4: case 5: case 6:
                    same("follows()", real.follows(), model.follows());
                    break;
                case 7: case 8: case 9: case 10: {
                    int to = random.nextInt(3) > 0 ? model.someNeighbour(random) : near(9);
                    same("burns(" + to + ")", real.burns(to), model.burns(to));
                    break;
                }
                case 11: {
                    int to = near(9);
                    same("moves(" + to + ")", real.moves(to), model.moves(to));
                    break;
                }
                case 12: case 13: case 14:
                    same("undo()", real.undo(), model.undo());
                    break;
                case 15: {
                    int i = near(2);
                    same("keep(" + i + ")", real.keep(i), model.keep(i));
                    break;
                }
                case 16: {
                    int i = near(2);
                    same("back(" + i + ")", real.back(i), model.back(i));
                    break;
                }
                case 17: case 18: {
                    int a = near(9);
                    int b = near(9);
                    int t = random.nextInt(3) > 0 ? model.truth(a, b, random) : near(2);
                    same("sees(" + a + ", " + b + ", " + t + ")", real.sees(a, b, t), model.sees(a, b, t));
                    break;
                }
                case 19:
                    if (random.nextInt(4) == 0) {
                        same("forget()", real.forget(), model.forget());
                    }
                    break;
                case 20: case 21:
                    same("unseen()", real.unseen(), model.unseen());
                    break;
                case 22: case 23:
                    same("ask()", real.ask(), model.ask());
                    break;
                case 24:
                    if (random.nextInt(12) == 0) {
                        tell(random.nextBoolean() ? Texts.broken(random) : Texts.sound(random));
                    } else if (random.nextInt(12) == 0) {
                        same("clear()", real.clear(), model.clear());
                    }
                    break;
                default:
                    look();
                    break;
            }
        }

        void look() {
            switch (random.nextInt(9)) {
                case 0: {
                    int k = near(9);
                    int w = near(4);
                    same("corner(" + k + ", " + w + ")", real.corner(k, w), model.corner(k, w));
                    break;
                }
                case 1: {
                    int c = near(14);
                    int w = near(5);
                    same("cut(" + c + ", " + w + ")", real.cut(c, w), model.cut(c, w));
                    break;
                }
                case 2: {
                    int p = near(4);
                    int w = near(3);
                    same("part(" + p + ", " + w + ")", real.part(p, w), model.part(p, w));
                    break;
                }
                case 3: {
                    int p = near(4);
                    int w = near(5);
                    same("piece(" + p + ", " + w + ")", real.piece(p, w), model.piece(p, w));
                    break;
                }
                case 4: {
                    int k = near(9);
                    same("link(" + k + ")", real.link(k), model.link(k));
                    break;
                }
                case 5: case 6: {
                    int p = near(random.nextInt(4) + 1);
                    int k = near(16);
                    int w = near(2);
                    same("round(" + p + ", " + k + ", " + w + ")", real.round(p, k, w), model.round(p, k, w));
                    break;
                }
                case 7: {
                    int k = random.nextInt(7) - 2;
                    same("tour(" + k + ")", real.tour(k), model.tour(k));
                    break;
                }
                default: {
                    int w = near(11);
                    same("count(" + w + ")", real.count(w), model.count(w));
                    break;
                }
            }
        }
    }

    /** Random texts. */
    private static final class Texts {
        static String sound(Random random) {
            return random.nextInt(3) == 0 ? nested(random) : scattered(random);
        }

        /** Rings round the plate's middle, or beside it, with no corner in common: several pieces, some AHEAD. */
        static String nested(Random random) {
            List<String> items = new ArrayList<>();
            Set<Integer> places = new HashSet<>();
            int corners = 0;
            int rings = 0;
            for (int reach = 10; reach > 0 && corners <= 7; reach -= 1 + random.nextInt(4)) {
                boolean ring = corners <= 6 && rings < 4 && random.nextInt(4) > 0;
                int size = ring ? 3 + random.nextInt(Math.min(3, 7 - corners)) : 2;
                int midX = random.nextInt(3) > 0 ? 10 : reach + random.nextInt(21 - 2 * reach);
                int midY = random.nextInt(3) > 0 ? 10 : reach + random.nextInt(21 - 2 * reach);
                double turn = random.nextDouble() * 2 * Math.PI;
                StringBuilder group = new StringBuilder();
                int begun = items.size();
                for (int i = 0; i < size; i++) {
                    double angle = turn + i * 2 * Math.PI / size;
                    int x = midX + (int) Math.round(reach * Math.cos(angle));
                    int y = midY + (int) Math.round(reach * Math.sin(angle));
                    if (places.add(32 * x + y)) {
                        items.add("k" + x + " " + y);
                        group.append(group.length() == 0 ? "" : " ").append(corners);
                        corners++;
                    }
                }
                if (items.size() - begun == size) {
                    items.add((ring ? "p" : "s") + group);
                    rings += ring ? 1 : 0;
                }
            }
            if (random.nextInt(3) == 0 && corners > 1) {
                items.add("s0 " + (1 + random.nextInt(corners - 1)));
            }
            items.add(0, "h" + random.nextInt(21));
            return joined(items);
        }

        static String scattered(Random random) {
            int size = random.nextBoolean() ? 21 : 3 + random.nextInt(6);
            int corners = 1 + random.nextInt(9);
            int seams = random.nextInt(12);
            int rings = random.nextInt(5);
            List<String> items = new ArrayList<>();
            Set<Integer> places = new HashSet<>();
            while (places.size() < corners) {
                int x = random.nextInt(size);
                int y = random.nextInt(size);
                if (places.add(32 * x + y)) {
                    items.add("k" + x + " " + y);
                }
            }
            for (int i = 0; i < rings && corners >= 3; i++) {
                items.add(ring(random, corners));
            }
            for (int i = 0; i < seams && corners >= 2; i++) {
                int a = random.nextInt(corners);
                int b = (a + 1 + random.nextInt(corners - 1)) % corners;
                items.add("s" + a + " " + b);
            }
            if (random.nextInt(4) > 0) {
                items.add(random.nextInt(items.size() + 1), "h" + random.nextInt(21));
            }
            return joined(items);
        }

        static String joined(List<String> items) {
            StringBuilder text = new StringBuilder();
            for (String item : items) {
                if (text.length() + item.length() + 1 <= 110) {
                    text.append(item).append(';');
                }
            }
            return text.toString();
        }

        static String ring(Random random, int corners) {
            List<Integer> all = new ArrayList<>();
            for (int k = 0; k < corners; k++) {
                all.add(k);
            }
            Collections.shuffle(all, random);
            int size = Math.min(corners, 3 + random.nextInt(3));
            StringBuilder item = new StringBuilder("p");
            for (int i = 0; i < size; i++) {
                item.append(i == 0 ? "" : " ").append(all.get(i));
            }
            return item.toString();
        }

        static String broken(Random random) {
            String signs = "hkps;;  0123456789990x";
            StringBuilder text = new StringBuilder(sound(random));
            int changes = 1 + random.nextInt(3);
            for (int i = 0; i < changes && text.length() > 0; i++) {
                int at = random.nextInt(text.length());
                char sign = random.nextInt(12) == 0 ? (char) random.nextInt(256)
                        : signs.charAt(random.nextInt(signs.length()));
                switch (random.nextInt(4)) {
                    case 0: text.setCharAt(at, sign); break;
                    case 1: text.insert(at, sign); break;
                    case 2: text.deleteCharAt(at); break;
                    default: text.insert(at, ' '); break;
                }
            }
            if (random.nextInt(6) == 0) {
                text.setLength(random.nextInt(text.length() + 1));
            }
            return text.toString();
        }
    }

    /** How things are; never changed, so that the past and images just hold it. */
    private record Plight(Set<Integer> left, int torch, int time, Map<Integer, Integer> burnt, boolean just) { }

    private record Step(int to, boolean cut) { }

    private static final class Model {
        static final int BAD = -1, STATE = -2, FULL = -3, NONE = -9;
        final StringBuilder text = new StringBuilder();
        List<int[]> corners = new ArrayList<>();
        List<int[]> cuts = new ArrayList<>();
        List<List<Integer>> parts = new ArrayList<>();
        int heat = 0;
        Plight now = new Plight(new TreeSet<>(), NONE, 0, new HashMap<>(), false);
        final Deque<Plight> past = new ArrayDeque<>();
        final Plight[] images = new Plight[2];
        final List<int[]> seen = new ArrayList<>();

        // -- the text

        int type(int letter) {
            if (letter < 0 || letter > 255) return BAD;
            if (text.length() == 110) return FULL;
            text.append((char) letter);
            return text.length();
        }

        int clear() {
            int had = text.length();
            text.setLength(0);
            return had;
        }

        /** Whole items and the beginning of one: null if no text could begin so. */
        private Telling telling(List<String> tokens) {
            Telling t = new Telling();
            List<String> item = new ArrayList<>();
            for (String token : tokens) {
                item.add(token);
                if (!t.takes(item)) return null;
                if (token.equals(";")) item.clear();
            }
            t.whole = item.isEmpty();
            return t;
        }

        int plate() {
            List<String> tokens = new ArrayList<>();
            java.util.regex.Matcher m = java.util.regex.Pattern.compile("[0-9]+|[^ ]", java.util.regex.Pattern.DOTALL)
                    .matcher(text);
            Telling all = telling(tokens);
            while (m.find()) {
                tokens.add(m.group());
                all = telling(tokens);
                if (all == null) return -10 - m.start();
            }
            if (!all.whole) return -10 - text.length();
            corners = all.corners;
            parts = all.parts;
            heat = all.heat;
            cuts = new ArrayList<>();
            for (int code : all.cuts) cuts.add(new int[] {code / 16, code % 16});
            Set<Integer> left = new TreeSet<>();
            for (int c = 0; c < cuts.size(); c++) left.add(c);
            now = new Plight(left, corners.isEmpty() ? NONE : 0, 0, new HashMap<>(), false);
            past.clear();
            images[0] = null;
            images[1] = null;
            seen.clear();
            text.setLength(0);
            return all.items;
        }

        private static final class Telling {
            final List<int[]> corners = new ArrayList<>();
            final Set<Integer> cuts = new TreeSet<>();
            final List<List<Integer>> parts = new ArrayList<>();
            int heat = 0;
            boolean heatTold = false;
            int items = 0;
            boolean whole = true;

            boolean takes(List<String> item) {
                String token = item.get(item.size() - 1);
                if (!token.matches("[hkps;]|0|[1-9][0-9]?")) return false;
                boolean end = token.equals(";");
                if (!end && (item.size() > 1) == token.matches("[hkps]")) return false;
                List<Integer> numbers = new ArrayList<>();
                for (String s : item) if (s.matches("[0-9]+")) numbers.add(Integer.parseInt(s));
                boolean right;
                switch (item.get(0)) {
                    case "h": right = heat(numbers, end); break;
                    case "k": right = corner(numbers, end); break;
                    case "p": right = ring(numbers, end); break;
                    case "s": right = seam(numbers, end); break;
                    default: right = false; break;
                }
                if (end) items++;
                return right && cuts.size() <= 14;
            }

            boolean heat(List<Integer> n, boolean end) {
                if (heatTold || n.size() > 1 || !n.isEmpty() && n.get(0) > 20) return false;
                if (end) {
                    if (n.size() != 1) return false;
                    heat = n.get(0);
                    heatTold = true;
                }
                return true;
            }

            boolean corner(List<Integer> n, boolean end) {
                if (corners.size() == 9 || n.size() > 2 || end && n.size() != 2) return false;
                for (int v : n) if (v > 20) return false;
                if (n.size() == 2) {
                    for (int[] c : corners) if (c[0] == n.get(0) && c[1] == n.get(1)) return false;
                }
                if (end) corners.add(new int[] {n.get(0), n.get(1)});
                return true;
            }

            boolean ring(List<Integer> n, boolean end) {
                if (parts.size() == 4 || n.size() > 5 || end && n.size() < 3) return false;
                if (new HashSet<>(n).size() < n.size()) return false;
                for (int v : n) if (v >= corners.size()) return false;
                for (int i = 1; i < n.size(); i++) tie(n.get(i - 1), n.get(i));
                if (end) {
                    tie(n.get(n.size() - 1), n.get(0));
                    parts.add(n);
                }
                return true;
            }

            boolean seam(List<Integer> n, boolean end) {
                if (n.size() > 2 || end && n.size() != 2) return false;
                for (int v : n) if (v >= corners.size()) return false;
                if (n.size() == 2) {
                    if (n.get(0).intValue() == n.get(1).intValue()) return false;
                    tie(n.get(0), n.get(1));
                }
                return true;
            }

            void tie(int a, int b) {
                cuts.add(16 * Math.min(a, b) + Math.max(a, b));
            }
        }

        // -- the plate

        boolean isCorner(int k) {
            return k >= 0 && k < corners.size();
        }

        int way(int a, int b) {
            if (a == NONE) return 0;
            int[] p = corners.get(a);
            int[] q = corners.get(b);
            return Math.abs(p[0] - q[0]) + Math.abs(p[1] - q[1]);
        }

        boolean touches(int c, int k) {
            return cuts.get(c)[0] == k || cuts.get(c)[1] == k;
        }

        int corner(int k, int what) {
            if (!isCorner(k) || what < 0 || what > 3) return BAD;
            if (what < 2) return corners.get(k)[what];
            if (what == 3) return now.burnt.getOrDefault(k, NONE);
            return (int) now.left.stream().filter(c -> touches(c, k)).count();
        }

        int cut(int c, int what) {
            if (c < 0 || c >= cuts.size() || what < 0 || what > 4) return BAD;
            if (what < 2) return cuts.get(c)[what];
            if (what == 2) return now.left.contains(c) ? 1 : 0;
            if (what == 4) return way(cuts.get(c)[0], cuts.get(c)[1]);
            List<Set<Integer>> pieces = pieces();
            for (int p = 0; p < pieces.size(); p++) if (pieces.get(p).contains(c)) return p;
            return NONE;
        }

        int cutOf(int a, int b) {
            for (int c = 0; c < cuts.size(); c++) if (touches(c, a) && touches(c, b)) return c;
            return NONE;
        }

        Set<Integer> ringCuts(int p) {
            List<Integer> ring = parts.get(p);
            Set<Integer> set = new TreeSet<>();
            for (int i = 0; i < ring.size(); i++) set.add(cutOf(ring.get(i), ring.get((i + 1) % ring.size())));
            return set;
        }

        boolean within(int inner, int outer) {
            if (inner == outer) return false;
            int k = parts.get(inner).get(0);
            List<Integer> ring = parts.get(outer);
            if (ring.contains(k)) return false;
            double turned = 0;
            for (int i = 0; i < ring.size(); i++) {
                int[] a = corners.get(ring.get(i));
                int[] b = corners.get(ring.get((i + 1) % ring.size()));
                int ax = a[0] - corners.get(k)[0];
                int ay = a[1] - corners.get(k)[1];
                int bx = b[0] - corners.get(k)[0];
                int by = b[1] - corners.get(k)[1];
                int cross = ax * by - ay * bx;
                int dot = ax * bx + ay * by;
                if (cross == 0 && dot <= 0) return false;
                turned += Math.atan2(cross, dot);
            }
            return Math.round(turned / (2 * Math.PI)) != 0;
        }

        int part(int p, int what) {
            if (p < 0 || p >= parts.size() || what < 0 || what > 2) return BAD;
            if (what == 0) return parts.get(p).size();
            if (what == 1) return (int) ringCuts(p).stream().filter(now.left::contains).count();
            int bits = 0;
            for (int q = 0; q < parts.size(); q++) if (within(p, q)) bits |= 1 << q;
            return bits;
        }

        // -- acts

        boolean cool(int k, int when) {
            return !now.burnt.containsKey(k) || when >= now.burnt.get(k) + heat;
        }

        boolean burnt(int to) {
            int c = cutOf(now.torch, to);
            if (c == NONE || !now.left.contains(c)) return false;
            Set<Integer> then = new TreeSet<>(now.left);
            then.remove(c);
            for (int outer = 0; outer < parts.size(); outer++) {
                for (int inner = 0; inner < parts.size(); inner++) {
                    if (within(inner, outer) && Collections.disjoint(ringCuts(outer), then)
                            && !Collections.disjoint(ringCuts(inner), then)) return false;
                }
            }
            int way = way(now.torch, to);
            int begin = now.time;
            while (true) {
                boolean goesOn = now.just && begin == now.time;
                if ((goesOn || cool(now.torch, begin)) && cool(to, begin + way)) break;
                begin++;
            }
            Map<Integer, Integer> burnt = new HashMap<>(now.burnt);
            burnt.put(now.torch, begin);
            burnt.put(to, begin + way);
            remember();
            now = new Plight(then, to, begin + way, burnt, true);
            return true;
        }

        void remember() {
            past.addLast(now);
            if (past.size() > 10) past.removeFirst();
        }

        void moved(int to) {
            remember();
            now = new Plight(now.left, to, now.time + way(now.torch, to), now.burnt, false);
        }

        int burns(int to) {
            if (!isCorner(to) || to == now.torch) return BAD;
            return burnt(to) ? now.time : STATE;
        }

        int moves(int to) {
            if (!isCorner(to) || to == now.torch) return BAD;
            moved(to);
            return now.time;
        }

        int follows() {
            if (now.left.isEmpty()) return STATE;
            List<Integer> tour = bestTour();
            if (tour == null) return STATE;
            int start = start(pieces().get(tour.get(0)));
            if (start != now.torch) {
                moved(start);
                return start;
            }
            return burnt(walk(tour.get(0)).get(0).to) ? now.torch : STATE;
        }

        int undo() {
            if (past.isEmpty()) return STATE;
            now = past.removeLast();
            return past.size();
        }

        // -- pieces

        Set<Integer> cornersOf(Set<Integer> piece) {
            Set<Integer> set = new TreeSet<>();
            for (int c : piece) {
                set.add(cuts.get(c)[0]);
                set.add(cuts.get(c)[1]);
            }
            return set;
        }

        List<Set<Integer>> pieces() {
            List<Set<Integer>> pieces = new ArrayList<>();
            for (int c : now.left) {
                Set<Integer> one = new TreeSet<>(Set.of(c));
                List<Set<Integer>> rest = new ArrayList<>();
                for (Set<Integer> piece : pieces) {
                    if (Collections.disjoint(cornersOf(piece), cornersOf(Set.of(c)))) {
                        rest.add(piece);
                    } else {
                        one.addAll(piece);
                    }
                }
                rest.add(one);
                pieces = rest;
            }
            pieces.sort((p, q) -> Collections.min(cornersOf(p)) - Collections.min(cornersOf(q)));
            return pieces;
        }

        List<Integer> odd(Set<Integer> piece) {
            List<Integer> list = new ArrayList<>();
            for (int k : cornersOf(piece)) {
                if (piece.stream().filter(c -> touches(c, k)).count() % 2 == 1) list.add(k);
            }
            return list;
        }

        /** In their order, the first one first. */
        List<List<int[]>> pairings(List<Integer> odd) {
            List<List<int[]>> all = new ArrayList<>();
            if (odd.isEmpty()) {
                all.add(new ArrayList<>());
                return all;
            }
            for (int i = 1; i < odd.size(); i++) {
                List<Integer> rest = new ArrayList<>(odd);
                int b = rest.remove(i);
                int a = rest.remove(0);
                for (List<int[]> behind : pairings(rest)) {
                    List<int[]> one = new ArrayList<>();
                    one.add(new int[] {a, b});
                    one.addAll(behind);
                    all.add(one);
                }
            }
            return all;
        }

        int sum(List<int[]> pairs) {
            int sum = 0;
            for (int[] pair : pairs) sum += way(pair[0], pair[1]);
            return sum;
        }

        List<int[]> links(Set<Integer> piece) {
            List<int[]> best = null;
            for (List<int[]> one : pairings(odd(piece))) if (best == null || sum(one) < sum(best)) best = one;
            return best;
        }

        int start(Set<Integer> piece) {
            Set<Integer> set = cornersOf(piece);
            return set.contains(now.torch) ? now.torch : Collections.min(set);
        }

        List<Step> walk(int p) {
            Set<Integer> piece = pieces().get(p);
            List<int[]> edges = new ArrayList<>();
            for (int c : piece) edges.add(new int[] {cuts.get(c)[0], cuts.get(c)[1], 1});
            for (int[] pair : links(piece)) edges.add(new int[] {pair[0], pair[1], 0});
            List<Step> steps = new ArrayList<>();
            int start = start(piece);
            if (!extend(edges, new boolean[edges.size()], start, start, steps)) {
                throw new IllegalStateException("no round");
            }
            return steps;
        }

        boolean extend(List<int[]> edges, boolean[] used, int at, int start, List<Step> steps) {
            if (steps.size() == edges.size()) return at == start;
            List<int[]> ways = new ArrayList<>();
            for (int e = 0; e < edges.size(); e++) {
                int[] edge = edges.get(e);
                if (used[e] || edge[0] != at && edge[1] != at || steps.isEmpty() && edge[2] == 0) continue;
                ways.add(new int[] {edge[0] + edge[1] - at, 1 - edge[2], e});
            }
            ways.sort((v, w) -> v[0] != w[0] ? v[0] - w[0] : v[1] - w[1]);
            for (int[] way : ways) {
                used[way[2]] = true;
                steps.add(new Step(way[0], way[1] == 0));
                if (extend(edges, used, way[0], start, steps)) return true;
                steps.remove(steps.size() - 1);
                used[way[2]] = false;
            }
            return false;
        }

        boolean mustBeAhead(Set<Integer> one, Set<Integer> other) {
            for (int a = 0; a < parts.size(); a++) {
                for (int b = 0; b < parts.size(); b++) {
                    if (within(a, b) && !Collections.disjoint(ringCuts(a), one)
                            && !Collections.disjoint(ringCuts(b), other)) return true;
                }
            }
            return false;
        }

        int tourWay(List<Integer> order) {
            List<Set<Integer>> pieces = pieces();
            int at = now.torch;
            int sum = 0;
            for (int p : order) {
                sum += way(at, start(pieces.get(p)));
                at = start(pieces.get(p));
            }
            return sum;
        }

        List<Integer> bestTour() {
            List<List<Integer>> all = new ArrayList<>();
            orders(pieces().size(), new ArrayList<>(), all);
            List<Integer> best = null;
            for (List<Integer> one : all) {
                if (mayBe(one) && (best == null || tourWay(one) < tourWay(best))) best = one;
            }
            return best;
        }

        boolean mayBe(List<Integer> order) {
            List<Set<Integer>> pieces = pieces();
            for (int i = 0; i < order.size(); i++) {
                for (int j = 0; j < i; j++) {
                    if (mustBeAhead(pieces.get(order.get(i)), pieces.get(order.get(j)))) return false;
                }
            }
            return true;
        }

        void orders(int n, List<Integer> begun, List<List<Integer>> all) {
            if (begun.size() == n) all.add(new ArrayList<>(begun));
            for (int p = 0; p < n; p++) {
                if (begun.contains(p)) continue;
                begun.add(p);
                orders(n, begun, all);
                begun.remove(begun.size() - 1);
            }
        }

        int bits(Iterable<Integer> set) {
            int bits = 0;
            for (int i : set) bits |= 1 << i;
            return bits;
        }

        int piece(int p, int what) {
            List<Set<Integer>> pieces = pieces();
            if (p < 0 || p >= pieces.size() || what < 0 || what > 4) return BAD;
            if (what == 0) return bits(pieces.get(p));
            if (what == 1) return bits(odd(pieces.get(p)));
            if (what == 2) return sum(links(pieces.get(p)));
            if (what == 3) return walk(p).size();
            Set<Integer> ahead = new TreeSet<>();
            for (int q = 0; q < pieces.size(); q++) {
                if (q != p && mustBeAhead(pieces.get(q), pieces.get(p))) ahead.add(q);
            }
            return bits(ahead);
        }

        int link(int k) {
            if (!isCorner(k)) return BAD;
            for (Set<Integer> piece : pieces()) {
                for (int[] pair : links(piece)) {
                    if (pair[0] == k) return pair[1];
                    if (pair[1] == k) return pair[0];
                }
            }
            return NONE;
        }

        int round(int p, int k, int what) {
            if (p < 0 || p >= pieces().size() || k < 0 || what < 0 || what > 1) return BAD;
            List<Step> steps = walk(p);
            if (k >= steps.size()) return NONE;
            return what == 0 ? steps.get(k).to : steps.get(k).cut ? 1 : 0;
        }

        int tour(int k) {
            if (k < -1) return BAD;
            List<Integer> tour = bestTour();
            if (tour == null || k >= tour.size()) return NONE;
            if (k >= 0) return tour.get(k);
            int idle = tourWay(tour);
            for (Set<Integer> piece : pieces()) idle += sum(links(piece));
            return idle;
        }

        // -- which cut

        int someNeighbour(Random random) {
            List<Integer> list = new ArrayList<>();
            for (int c : now.left) if (touches(c, now.torch)) list.add(cuts.get(c)[0] + cuts.get(c)[1] - now.torch);
            return list.isEmpty() ? 0 : list.get(random.nextInt(list.size()));
        }

        boolean hang(int a, int b, int without) {
            Set<Integer> reached = new HashSet<>(Set.of(a));
            for (int i = 0; i < 9; i++) {
                for (int c : now.left) {
                    if (c != without && (reached.contains(cuts.get(c)[0]) || reached.contains(cuts.get(c)[1]))) {
                        reached.add(cuts.get(c)[0]);
                        reached.add(cuts.get(c)[1]);
                    }
                }
            }
            return reached.contains(b);
        }

        int truth(int a, int b, Random random) {
            if (!isCorner(a) || !isCorner(b) || now.left.isEmpty()) return 1;
            List<Integer> can = suspects();
            if (can.isEmpty()) can = new ArrayList<>(now.left);
            return hang(a, b, can.get(random.nextInt(can.size()))) ? 1 : 0;
        }

        int sees(int a, int b, int together) {
            if (!isCorner(a) || !isCorner(b) || together < 0 || together > 1) return BAD;
            if (seen.size() == 6) return FULL;
            seen.add(new int[] {a, b, together});
            return seen.size();
        }

        int forget() {
            int had = seen.size();
            seen.clear();
            return had;
        }

        List<Integer> suspects() {
            List<Integer> list = new ArrayList<>();
            for (int c : now.left) {
                if (seen.stream().allMatch(s -> hang(s[0], s[1], c) == (s[2] == 1))) list.add(c);
            }
            return list;
        }

        int unseen() {
            return bits(suspects());
        }

        int ask() {
            List<Integer> list = suspects();
            if (list.size() < 2) return NONE;
            int best = NONE;
            int least = Integer.MAX_VALUE;
            for (int code = 0; code < 256; code++) {
                int a = code / 16;
                int b = code % 16;
                if (a >= b || !isCorner(b)) continue;
                int so = (int) list.stream().filter(c -> hang(a, b, c)).count();
                int greater = Math.max(so, list.size() - so);
                if (greater < least) {
                    least = greater;
                    best = code;
                }
            }
            return best;
        }

        // -- images

        int keep(int i) {
            if (i != 0 && i != 1) return BAD;
            images[i] = now;
            return now.time;
        }

        int back(int i) {
            if (i != 0 && i != 1) return BAD;
            if (images[i] == null) return STATE;
            now = images[i];
            past.clear();
            return now.time;
        }

        int count(int what) {
            switch (what) {
                case 0: return corners.size();
                case 1: return cuts.size();
                case 2: return parts.size();
                case 3: return heat;
                case 4: return now.left.size();
                case 5: return now.torch;
                case 6: return now.time;
                case 7: return pieces().size();
                case 8: return seen.size();
                case 9: return text.length();
                case 10: return past.size();
                default: return BAD;
            }
        }
    }
}
