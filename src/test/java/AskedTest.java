/** Promises 20 to 25, but for status() with sheets: kinds of layers, asks, the trace, counts. */
public final class AskedTest {
    private static final int NONE = -1000000, BAD = -1000001, KIND = -1000013;
    private static final Check CHECK = new Check();

    public static void main(String[] args) {
        kind();
        as();
        asksOfSpanned();
        asksOfOwned();
        asksOfAsked();
        asksOfNeeding();
        asksOfEver();
        askIsRefused();
        count();
        CHECK.finish();
    }

    private static void due(String what, long got, long want) {
        CHECK.due(what, got, want);
    }

    private static WakingLayers all() {
        return CHECK.told("kind;thing 0 0;thing 0 0;layer span 1;layer thing 2;layer ask 3;layer ask 4 need 0 need 2;layer ever 5;"
            + "layer ask 6 bar 0;",
            "body 0 0 0 before;body 0 0 1 before;body 1 0 0 before;body 2 0 0 before;body 2 0 0 before;body 2 0 3 before;"
            + "body 3 0 0 before;body 4 0 0 before;body 4 0 0 before;body plain 0 0 before;");
    }

    private static void kind() {
        WakingLayers x = all();
        int[] kinds = {1, 2, 3, 4, 5, 3};
        for (int layer = 0; layer < kinds.length; layer++) {
            due("kind(" + layer + ")", x.kind(layer), kinds[layer]);
        }
        due("above", x.kind(6), BAD);
        due("below", x.kind(-1), BAD);
        due("far", x.kind(Integer.MAX_VALUE), BAD);
    }

    private static void as() {
        WakingLayers x = all();
        int[] fits = {0b000011, 0b000111, 0b001001, 0b011001, 0b100001, 0b001001};
        for (int layer = 0; layer < fits.length; layer++) {
            for (int kind = 0; kind <= 5; kind++) {
                boolean fit = (fits[layer] >> kind & 1) == 1;
                due("as(" + layer + ", " + kind + ")", x.as(layer, kind), fit ? layer + 1 : KIND);
                due("status", x.status(), fit ? 0 : 3);
            }
        }
        due("kind above", x.as(0, 6), BAD);
        due("kind below", x.as(0, -1), BAD);
        due("no such layer", x.as(6, 0), BAD);
        due("layer below", x.as(-1, 0), BAD);
    }

    private static void asksOfSpanned() {
        WakingLayers x = all();
        due("size", x.ask(0, 0), 1);
        CHECK.trace(x, 11, 10);
        x.wake(0, NONE);
        x.wake(0, NONE);
        x.wake(1, 0);
        due("size with open ones", x.ask(0, 0), 3);
        CHECK.trace(x, 11, 10);
        due("mark", x.ask(0, 1), 2);
        CHECK.trace(x, 20);
    }

    private static void asksOfOwned() {
        WakingLayers x = all();
        due("size", x.ask(1, 0), 4);
        CHECK.trace(x, 12, 11, 10);
        x.wake(1, 0);
        x.wake(0, NONE);
        x.wake(1, 1);
        x.wake(1, 1);
        due("size with open ones", x.ask(1, 0), 10);
        CHECK.trace(x, 12, 11, 10);
        due("mark", x.ask(1, 1), 1);
        CHECK.trace(x, 20);
    }

    private static void asksOfAsked() {
        WakingLayers x = all();
        due("size asleep", x.ask(2, 0), 6);
        CHECK.trace(x, 13, 10, 21, 20);
        due("mark asleep", x.ask(2, 1), 3);
        CHECK.trace(x, 21, 20);
        x.point();
        due("size awake", x.ask(2, 0), 106);
        due("mark awake", x.ask(2, 1), 103);
        CHECK.trace(x, 21, 20);
        due("without bodies", x.ask(5, 1), 100);
    }

    private static void asksOfNeeding() {
        WakingLayers x = all();
        due("size asleep", x.ask(3, 0), 7);
        CHECK.trace(x, 14, 13, 10, 21, 20);
        due("mark asleep", x.ask(3, 1), 1);
        CHECK.trace(x, 21, 20);
        x.wake(0, NONE);
        x.point();
        due("size awake", x.ask(3, 0), 107);
        due("mark awake", x.ask(3, 1), 101);
        WakingLayers y = CHECK.told("layer ever 0;layer ask 9 need 0 need 0;");
        due("a layer needed twice is one", y.ask(1, 0), 10);
    }

    private static void asksOfEver() {
        WakingLayers x = all();
        due("size", x.ask(4, 0), 5);
        CHECK.trace(x, 10);
        due("mark", x.ask(4, 1), 7);
        CHECK.trace(x, 22, 20, 10);
    }

    private static void askIsRefused() {
        WakingLayers x = all();
        due("empty trace", x.trace(0), NONE);
        x.ask(4, 1);
        due("what above", x.ask(0, 2), BAD);
        due("what below", x.ask(0, -1), BAD);
        due("no such layer", x.ask(6, 0), BAD);
        due("layer below", x.ask(-1, 0), BAD);
        CHECK.trace(x, 22, 20, 10);
        due("trace below", x.trace(-1), NONE);
        due("trace far", x.trace(Integer.MAX_VALUE), NONE);
        due("trace least", x.trace(Integer.MIN_VALUE), NONE);
    }

    private static void count() {
        WakingLayers x = all();
        x.sheet(3, 0, 0);
        x.sheet(4, 0, 0);
        x.wake(1, 0);
        x.wake(1, 1);
        x.point();
        x.feed(32, 3);
        int[] counts = {2, 1, 2, 6, 10, 2, 4, 3};
        for (int what = 0; what < counts.length; what++) {
            due("count(" + what + ")", x.count(what), counts[what]);
        }
        due("above", x.count(8), BAD);
        due("below", x.count(-1), BAD);
    }
}
