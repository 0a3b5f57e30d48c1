/**
 * The boundary cases of what is asked: promises 20 to 24. Ahead of each test stands the sentence of
 * the document that it would find broken.
 */
public final class AskBoundariesTest {
    private static final int NONE = -1000000, BAD = -1000001, KIND = -1000013;
    private static final int MIN = Integer.MIN_VALUE, MAX = Integer.MAX_VALUE;
    private static final String SORTS = "layer span 1;layer thing 2;layer ask 3;layer ask 4 need 0;layer ever 5;";
    private static final Check CHECK = new Check();

    public static void main(String[] args) {
        kindIsRefused();
        kindsAreTheLastThatFits();
        asIsRefused();
        asOfEachKind();
        asOrder();
        askIsRefused();
        leastAndGreatestOfSpanned();
        leastAndGreatestOfOwned();
        leastAndGreatestOfAsked();
        leastAndGreatestOfNeeding();
        leastAndGreatestOfEver();
        hundredIfAwake();
        traceIsEmptyAhead();
        traceIndexes();
        countIsRefused();
        leastAndGreatestCounts();
        countsOfAwakeLayers();
        CHECK.finish();
    }

    private static void due(String what, long got, long want) {
        CHECK.due(what, got, want);
    }

    // kind: "BAD"
    private static void kindIsRefused() {
        WakingLayers x = CHECK.told(SORTS);
        for (int layer : new int[] {-1, 5, 7, 8, MIN, MAX}) {
            due("no layer " + layer, x.kind(layer), BAD);
        }
    }

    // "It is told as the last of these that fits", "(1 to 5)"
    private static void kindsAreTheLastThatFits() {
        WakingLayers x = CHECK.told(SORTS + "layer ask 3 bar 2;layer ask 3 0=1;layer ask 3 0=1 bar 2 need 6 need 2;");
        int[] kinds = {1, 2, 3, 4, 5, 3, 3, 4};
        for (int layer = 0; layer <= 7; layer++) {
            due("kind of " + layer, x.kind(layer), kinds[layer]);
        }
    }

    // as: "BAD", of a KIND "(0 .. 5)"
    private static void asIsRefused() {
        WakingLayers x = CHECK.told(SORTS);
        for (int layer : new int[] {-1, 5, 8, MIN, MAX}) {
            due("no layer " + layer, x.as(layer, 0), BAD);
        }
        for (int kind : new int[] {-1, 6, MIN, MAX}) {
            due("no kind " + kind, x.as(0, kind), BAD);
        }
        due("no finding", x.status(), 0);
    }

    // as: "its rank", "KIND: it is no such one"
    private static void asOfEachKind() {
        WakingLayers x = CHECK.told(SORTS);
        String[] fits = {"110000", "111000", "100100", "100110", "100001"};
        for (int layer = 0; layer <= 4; layer++) {
            for (int kind = 0; kind <= 5; kind++) {
                boolean fit = fits[layer].charAt(kind) == '1';
                due("as(" + layer + ", " + kind + ")", x.as(layer, kind), fit ? layer + 1 : KIND);
                due("status", x.status(), fit ? 0 : 3);
            }
        }
        WakingLayers y = CHECK.told("layer ever 0;layer span 9;");
        due("rank 0", y.as(0, 5), 0);
        due("rank 9", y.as(1, 0), 9);
    }

    // as: BAD ahead of KIND
    private static void asOrder() {
        WakingLayers x = CHECK.told(SORTS);
        due("KIND", x.as(0, 5), KIND);
        due("BAD kind", x.as(0, 6), BAD);
        due("BAD layer", x.as(5, 5), BAD);
        due("BAD leaves status()", x.status(), 3);
    }

    // ask: "An ASK (0, 1) of a LAYER. BAD."
    private static void askIsRefused() {
        WakingLayers x = CHECK.told(SORTS);
        x.ask(4, 1);
        for (int layer : new int[] {-1, 5, 8, MIN, MAX}) {
            due("no layer " + layer + ": SIZE", x.ask(layer, 0), BAD);
            due("no layer " + layer + ": MARK", x.ask(layer, 1), BAD);
        }
        for (int what : new int[] {-1, 2, MIN, MAX}) {
            due("no ask " + what, x.ask(0, what), BAD);
        }
        CHECK.trace(x, 22, 20, 10);
    }

    /** A new object whose LAYER, told last, has all BODIES that there is room for. */
    private static WakingLayers withAllBodies(String layers, int layer) {
        String body = "body " + layer + " 0 0 before;";
        return CHECK.told("kind;thing 0 0;" + layers, body.repeat(24));
    }

    // 10, 11, 20: rank 0 to 9, 0 to 16 open WAKINGS, 0 to 24 bodies
    private static void leastAndGreatestOfSpanned() {
        WakingLayers x = CHECK.told("layer span 0;");
        due("least SIZE", x.ask(0, 0), 0);
        CHECK.trace(x, 11, 10);
        due("least MARK", x.ask(0, 1), 0);
        CHECK.trace(x, 20);
        WakingLayers y = withAllBodies("layer span 9;", 0);
        for (int k = 0; k < 16; k++) {
            due("SIZE with " + k, y.ask(0, 0), 9 + k);
            y.wake(0, NONE);
        }
        due("greatest SIZE", y.ask(0, 0), 25);
        CHECK.trace(y, 11, 10);
        due("greatest MARK", y.ask(0, 1), 24);
        CHECK.trace(y, 20);
    }

    // 12: "what 11 gives, twice"
    private static void leastAndGreatestOfOwned() {
        WakingLayers x = CHECK.told("layer thing 0;");
        due("least SIZE", x.ask(0, 0), 0);
        CHECK.trace(x, 12, 11, 10);
        due("least MARK", x.ask(0, 1), 0);
        CHECK.trace(x, 20);
        WakingLayers y = withAllBodies("layer thing 9;", 0);
        for (int k = 0; k < 16; k++) {
            due("SIZE with " + k, y.ask(0, 0), 18 + 2 * k);
            y.wake(0, 0);
        }
        due("greatest SIZE", y.ask(0, 0), 50);
        CHECK.trace(y, 12, 11, 10);
        due("greatest MARK", y.ask(0, 1), 24);
        CHECK.trace(y, 20);
    }

    // 13: "what 10 gives, and MARK"
    private static void leastAndGreatestOfAsked() {
        WakingLayers x = CHECK.told("layer ask 0;");
        due("least SIZE", x.ask(0, 0), 0);
        CHECK.trace(x, 13, 10, 21, 20);
        due("least MARK", x.ask(0, 1), 0);
        CHECK.trace(x, 21, 20);
        WakingLayers y = withAllBodies("layer ask 9;", 0);
        due("asleep", y.ask(0, 0), 33);
        y.point();
        due("greatest SIZE", y.ask(0, 0), 133);
        CHECK.trace(y, 13, 10, 21, 20);
        due("greatest MARK", y.ask(0, 1), 124);
        CHECK.trace(y, 21, 20);
    }

    // 14: "what 13 gives, and how many it needs": 1 to 7
    private static void leastAndGreatestOfNeeding() {
        WakingLayers x = CHECK.told("layer ever 0;layer ask 0 need 0;");
        due("least SIZE", x.ask(1, 0), 1);
        CHECK.trace(x, 14, 13, 10, 21, 20);
        due("least MARK", x.ask(1, 1), 0);
        CHECK.trace(x, 21, 20);
        WakingLayers y = withAllBodies("layer ever 0;".repeat(7)
            + "layer ask 9 need 0 need 1 need 2 need 3 need 4 need 5 need 6 need 6;", 7);
        y.point();
        due("greatest SIZE", y.ask(7, 0), 140);
        CHECK.trace(y, 14, 13, 10, 21, 20);
        due("greatest MARK", y.ask(7, 1), 124);
        CHECK.trace(y, 21, 20);
    }

    // 22: "of EVER ones: what 20 gives, and SIZE"
    private static void leastAndGreatestOfEver() {
        WakingLayers x = CHECK.told("layer ever 0;");
        due("least SIZE", x.ask(0, 0), 0);
        CHECK.trace(x, 10);
        due("least MARK", x.ask(0, 1), 0);
        CHECK.trace(x, 22, 20, 10);
        WakingLayers y = withAllBodies("layer ever 9;", 0);
        due("greatest SIZE", y.ask(0, 0), 9);
        CHECK.trace(y, 10);
        due("greatest MARK", y.ask(0, 1), 33);
        CHECK.trace(y, 22, 20, 10);
    }

    // 21: "and 100, if it is AWAKE"
    private static void hundredIfAwake() {
        WakingLayers x = CHECK.told("layer span 0;layer ask 0 need 0;layer ask 0;layer ask 0 0=1 bar 2;");
        due("before a point", x.ask(2, 1), 0);
        x.wake(0, NONE);
        x.point();
        due("found", x.ask(1, 1), 100);
        due("found, needing none", x.ask(2, 1), 100);
        x.sleep(0);
        due("lost with its waking", x.ask(1, 1), 0);
        x.fact(0, 1);
        due("not before a point", x.ask(2, 1), 100);
        x.point();
        due("barred", x.ask(2, 1), 0);
        due("the one that bars", x.ask(3, 1), 100);
    }

    // ask: "THE TRACE is empty ahead of it"
    private static void traceIsEmptyAhead() {
        WakingLayers x = CHECK.told(SORTS);
        x.ask(3, 0);
        CHECK.trace(x, 14, 13, 10, 21, 20);
        x.ask(0, 1);
        CHECK.trace(x, 20);
        for (int k = 0; k < 20; k++) {
            x.ask(3, 0);
        }
        CHECK.trace(x, 14, 13, 10, 21, 20);
    }

    // trace: "Number i of THE TRACE; NONE."
    private static void traceIndexes() {
        WakingLayers x = CHECK.told(SORTS);
        due("before any", x.trace(0), NONE);
        x.ask(4, 1);
        due("the first", x.trace(0), 22);
        due("the last", x.trace(2), 10);
        for (int i : new int[] {3, 15, 16, 17, MAX, -1, MIN}) {
            due("no " + i, x.trace(i), NONE);
        }
    }

    // count: "BAD"
    private static void countIsRefused() {
        WakingLayers x = new WakingLayers();
        for (int what : new int[] {-1, 8, MIN, MAX}) {
            due("no count " + what, x.count(what), BAD);
        }
    }

    // count: "0 SHEETS, 1 KINDS, 2 THINGS, 3 LAYERS, 4 BODIES, 5 open WAKINGS, 6 AWAKE LAYERS ..., 7 bytes on the tape"
    private static void leastAndGreatestCounts() {
        WakingLayers x = new WakingLayers();
        for (int what = 0; what <= 7; what++) {
            due("least " + what, x.count(what), 0);
        }
        x = CHECK.told("kind;".repeat(8) + "thing 0 0;".repeat(8) + "layer span 0;".repeat(8), "body plain 0 0 before;".repeat(24));
        for (int k = 0; k < 16; k++) {
            x.wake(k % 8, NONE);
            x.sheet(k % 8, 0, 0);
        }
        Check.feed(x, " ".repeat(600));
        int[] greatest = {8, 8, 8, 8, 24, 16, 8, 600};
        for (int what = 0; what <= 7; what++) {
            due("greatest " + what, x.count(what), greatest[what]);
        }
    }

    // count: "6 AWAKE LAYERS (for some THING)"
    private static void countsOfAwakeLayers() {
        WakingLayers x = CHECK.told("kind;thing 0 0;thing 0 0;" + SORTS);
        due("ever", x.count(6), 1);
        x.wake(1, 1);
        x.wake(1, 0);
        due("a thing one, for two things", x.count(6), 2);
        x.point();
        due("an ask one", x.count(6), 3);
        x.wake(0, NONE);
        x.point();
        due("all", x.count(6), 5);
        x.sleep(0);
        due("less a span one, and the one that needs it", x.count(6), 3);
    }
}
