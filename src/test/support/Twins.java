import java.util.ArrayList;
import java.util.List;

/** Two runs that no calls may tell apart: what they hold is looked at from all sides, each time on new objects. */
final class Twins {
    /** More often than acts are known, so that one that is wrongly remembered shows. */
    private static final int TIMES = 11;
    private static final Probe[] PROBES = {
        Twins::looks, Twins::undoes, Twins::backToFirst, Twins::backToSecond, Twins::reads, Twins::types,
        Twins::tellsAnew, Twins::burnsOn, Twins::followsOn, Twins::seesMore};

    /** What a run goes through. */
    interface Tale {
        void on(Run run);
    }

    private interface Probe {
        List<Integer> on(Run run);
    }

    private Twins() { }

    static void alike(Tale one, Tale other) {
        for (Probe probe : PROBES) {
            compare(probe, one, other);
        }
    }

    /** As alike, but for what hangs on the text, the images or the acts that are known. */
    static void looksAlike(Tale one, Tale other) {
        compare(Twins::looks, one, other);
        compare(Twins::burnsOn, one, other);
        compare(Twins::followsOn, one, other);
    }

    /** The call answers as is due each time, and nothing has changed behind it. */
    static void refused(int want, Tale tale, Run.Act call) {
        alike(tale, run -> {
            tale.on(run);
            for (int i = 0; i < TIMES; i++) {
                run.due(call.on(run), want);
            }
        });
    }

    private static void compare(Probe probe, Tale one, Tale other) {
        Run first = new Run();
        one.on(first);
        Run second = new Run();
        other.on(second);
        List<Integer> due = probe.on(first);
        List<Integer> got = probe.on(second);
        if (due.equals(got)) {
            Run.asDue();
        } else {
            Run.wrong("not alike:\n  " + first + "\n  " + second);
        }
    }

    /** All that can be asked without changing anything. */
    private static List<Integer> looks(Run run) {
        List<Integer> seen = new ArrayList<>();
        for (int what = 0; what <= 10; what++) {
            seen.add(run.count(what));
        }
        for (int k = 0; k <= seen.get(0); k++) {
            for (int what = 0; what < 4; what++) {
                seen.add(run.corner(k, what));
            }
            seen.add(run.link(k));
        }
        for (int c = 0; c < seen.get(1); c++) {
            for (int what = 0; what < 5; what++) {
                seen.add(run.cut(c, what));
            }
        }
        for (int p = 0; p < seen.get(2); p++) {
            for (int what = 0; what < 3; what++) {
                seen.add(run.part(p, what));
            }
        }
        for (int p = 0; p < seen.get(7); p++) {
            looksAtPiece(run, p, seen);
        }
        for (int k = -1; k <= seen.get(7); k++) {
            seen.add(run.tour(k));
        }
        seen.add(run.unseen());
        seen.add(run.ask());
        return seen;
    }

    private static void looksAtPiece(Run run, int p, List<Integer> seen) {
        for (int what = 0; what < 5; what++) {
            seen.add(run.piece(p, what));
        }
        for (int k = 0; k <= run.piece(p, 3); k++) {
            seen.add(run.round(p, k, 0));
            seen.add(run.round(p, k, 1));
        }
    }

    private static void looksAtTorch(Run run, List<Integer> seen) {
        seen.add(run.count(4));
        seen.add(run.count(5));
        seen.add(run.count(6));
        for (int k = 0; k < run.count(0); k++) {
            seen.add(run.corner(k, 3));
        }
    }

    private static List<Integer> undoes(Run run) {
        List<Integer> seen = new ArrayList<>();
        for (int i = 0; i < TIMES; i++) {
            seen.add(run.undo());
            looksAtTorch(run, seen);
        }
        return seen;
    }

    private static List<Integer> backToFirst(Run run) {
        int time = run.back(0);
        List<Integer> seen = looks(run);
        seen.add(time);
        return seen;
    }

    private static List<Integer> backToSecond(Run run) {
        int time = run.back(1);
        List<Integer> seen = looks(run);
        seen.add(time);
        return seen;
    }

    /** Reading shows which letters the text has. */
    private static List<Integer> reads(Run run) {
        int items = run.plate();
        List<Integer> seen = looks(run);
        seen.add(items);
        return seen;
    }

    private static List<Integer> types(Run run) {
        List<Integer> seen = new ArrayList<>();
        seen.add(run.type(';'));
        seen.add(run.plate());
        seen.add(run.clear());
        seen.add(run.clear());
        return seen;
    }

    /** Nothing of an earlier reading may be left over. */
    private static List<Integer> tellsAnew(Run run) {
        List<Integer> seen = new ArrayList<>();
        seen.add(run.clear());
        run.types("k3 3;k5 3;k3 4;s2 1;p2 0 1;");
        seen.add(run.plate());
        seen.addAll(looks(run));
        return seen;
    }

    /** Burning on shows how hot corners are, and whether a cut has just ended. */
    private static List<Integer> burnsOn(Run run) {
        List<Integer> seen = new ArrayList<>();
        for (int i = 0; i < 2; i++) {
            for (int to = 0; to < run.count(0); to++) {
                seen.add(run.burns(to));
            }
        }
        looksAtTorch(run, seen);
        return seen;
    }

    private static List<Integer> followsOn(Run run) {
        List<Integer> seen = new ArrayList<>();
        for (int i = 0; i < TIMES; i++) {
            seen.add(run.follows());
        }
        seen.addAll(looks(run));
        return seen;
    }

    private static List<Integer> seesMore(Run run) {
        List<Integer> seen = new ArrayList<>();
        for (int k = 0; k < run.count(0) && k < 7; k++) {
            seen.add(run.sees(0, k, 1));
            seen.add(run.unseen());
            seen.add(run.ask());
        }
        seen.add(run.forget());
        seen.add(run.unseen());
        seen.add(run.ask());
        return seen;
    }
}
