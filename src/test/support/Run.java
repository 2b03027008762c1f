import java.util.ArrayList;
import java.util.List;

/**
 * A TorchPlate with all calls that were made on it, so that a wrong answer can be told with what led to it.
 * A call beyond the 512th is a fault of the test: what it answers is free.
 */
final class Run {
    static final int BAD = TorchPlate.BAD, STATE = TorchPlate.STATE, FULL = TorchPlate.FULL, NONE = TorchPlate.NONE;
    static final int MOST_CALLS = 512;
    private static final int MOST_TOLD = 20;
    private static int asDue = 0;
    private static int wrong = 0;
    private static String sentence = "";
    private static int sentences = 0;

    private final TorchPlate object = new TorchPlate();
    private final List<String> calls = new ArrayList<>();
    private int made = 0;

    /** An act on a run; its answer. */
    interface Act {
        int on(Run run);
    }

    /** The sentence of the document that the dues behind it look at. */
    static void says(String words) {
        sentence = words;
        sentences++;
    }

    static void wrong(String what) {
        wrong++;
        if (wrong <= MOST_TOLD) {
            System.out.println("\"" + sentence + "\": " + what);
        }
    }

    static void asDue() {
        asDue++;
    }

    static void end(String test) {
        System.out.println(test + ": " + sentences + " sentences, " + asDue + " answers as due, " + wrong + " not");
        if (wrong != 0) {
            System.exit(1);
        }
    }

    static Run typed(String text) {
        Run run = new Run();
        run.types(text);
        return run;
    }

    static Run told(String text) {
        Run run = new Run();
        run.tells(text);
        return run;
    }

    void types(String text) {
        int had = count(9);
        for (int i = 0; i < text.length(); i++) {
            if (object.type(text.charAt(i)) != had + i + 1) {
                wrong("letter " + i + " of '" + text + "' is not taken " + this);
            }
        }
        made += text.length();
        calls.add("'" + text + "'");
    }

    /** The text must be sound. */
    void tells(String text) {
        types(text);
        if (plate() < 0) {
            wrong("not a plate " + this);
        }
    }

    /** What the latest call answered is what is due. */
    void due(int got, int want) {
        if (got == want) {
            asDue++;
        } else {
            wrong("due is " + want + " at the end of " + this);
        }
    }

    void dueCounts(int... wants) {
        for (int what = 0; what < wants.length; what++) {
            due(count(what), wants[what]);
        }
    }

    @Override
    public String toString() {
        return String.join(" ", calls);
    }

    private int call(String name, int answer) {
        made++;
        calls.add(name + "=" + answer);
        if (made > MOST_CALLS) {
            wrong("too many calls " + calls.subList(0, 20));
        }
        return answer;
    }

    int type(int letter) {
        return call("type(" + letter + ")", object.type(letter));
    }

    int clear() {
        return call("clear()", object.clear());
    }

    int plate() {
        return call("plate()", object.plate());
    }

    int corner(int k, int what) {
        return call("corner(" + k + "," + what + ")", object.corner(k, what));
    }

    int cut(int c, int what) {
        return call("cut(" + c + "," + what + ")", object.cut(c, what));
    }

    int part(int p, int what) {
        return call("part(" + p + "," + what + ")", object.part(p, what));
    }

    int burns(int to) {
        return call("burns(" + to + ")", object.burns(to));
    }

    int moves(int to) {
        return call("moves(" + to + ")", object.moves(to));
    }

    int follows() {
        return call("follows()", object.follows());
    }

    int undo() {
        return call("undo()", object.undo());
    }

    int piece(int p, int what) {
        return call("piece(" + p + "," + what + ")", object.piece(p, what));
    }

    int link(int k) {
        return call("link(" + k + ")", object.link(k));
    }

    int round(int p, int k, int what) {
        return call("round(" + p + "," + k + "," + what + ")", object.round(p, k, what));
    }

    int tour(int k) {
        return call("tour(" + k + ")", object.tour(k));
    }

    int sees(int a, int b, int together) {
        return call("sees(" + a + "," + b + "," + together + ")", object.sees(a, b, together));
    }

    int forget() {
        return call("forget()", object.forget());
    }

    int unseen() {
        return call("unseen()", object.unseen());
    }

    int ask() {
        return call("ask()", object.ask());
    }

    int keep(int image) {
        return call("keep(" + image + ")", object.keep(image));
    }

    int back(int image) {
        return call("back(" + image + ")", object.back(image));
    }

    int count(int what) {
        return call("count(" + what + ")", object.count(what));
    }
}
