/** Promises 10 to 14: facts, points, wakings. */
public final class FactsAndWakingsTest {
    private static final int NONE = -1000000, BAD = -1000001, STATE = -1000002, FULL = -1000003;
    private static final int NULL = -1000011, PLACE = -1000012;
    private static final Check CHECK = new Check();

    public static void main(String[] args) {
        fact();
        facts();
        signsOfTests();
        factsHoldFromAPointOn();
        needsByNumbers();
        barsAllAtOnce();
        barsThenNeeds();
        barsOnOthersDoNothing();
        wake();
        wakingsAreCounted();
        sleep();
        sleepClosesTheLatest();
        sleepLosesThoseThatNeed();
        wakingFindsNone();
        CHECK.finish();
    }

    private static void due(String what, long got, long want) {
        CHECK.due(what, got, want);
    }

    private static void fact() {
        WakingLayers x = new WakingLayers();
        due("what it was", x.fact(3, 9), 0);
        due("what it was then", x.fact(3, 1), 9);
        due("BAD fact above", x.fact(4, 1), BAD);
        due("BAD fact below", x.fact(-1, 1), BAD);
        due("BAD value above", x.fact(3, 10), BAD);
        due("BAD value below", x.fact(3, -1), BAD);
        due("refused changes nothing", x.fact(3, 0), 1);
    }

    private static void facts() {
        WakingLayers x = new WakingLayers();
        x.sheet(0, 0, 5);
        int[] items = {1, 2, 9, 0, 10};
        for (int i = 0; i < 5; i++) {
            x.set(0, i, items[i]);
        }
        due("facts", x.facts(0, 0, 4), 4);
        for (int k = 0; k < 4; k++) {
            due("fact " + k, x.fact(k, 7), items[k]);
        }
        due("an item above", x.facts(0, 2, 3), BAD);
        due("nothing was told", x.fact(0, 7), 7);
        x.set(0, 4, -1);
        due("an item below", x.facts(0, 4, 1), BAD);
        due("one", x.facts(0, 1, 1), 1);
        due("it", x.fact(0, 0), 2);
        due("the others stay", x.fact(1, 0), 7);
        due("n 0", x.facts(0, 0, 0), BAD);
        due("n 5", x.facts(0, 0, 5), BAD);
        due("no sheet", x.facts(8, 0, 1), BAD);
        due("missing", x.facts(1, 0, 1), NULL);
        due("n ahead of NULL", x.facts(1, 0, 0), BAD);
        due("place below", x.facts(0, -1, 1), PLACE);
        due("place beyond", x.facts(0, 2, 4), PLACE);
        due("PLACE ahead of an item", x.facts(0, 4, 2), PLACE);
        due("place far", x.facts(0, Integer.MAX_VALUE, 4), PLACE);
    }

    private static void signsOfTests() {
        WakingLayers x = CHECK.told("layer ask 0 1<5;layer ask 0 1>5;layer ask 0 1=5;layer ask 0;");
        due("0", x.point(), 9);
        x.fact(1, 4);
        due("4", x.point(), 9);
        x.fact(1, 5);
        due("5", x.point(), 12);
        x.fact(1, 6);
        due("6", x.point(), 10);
    }

    private static void factsHoldFromAPointOn() {
        WakingLayers x = CHECK.told("kind;thing 0 0;layer ask 1 0=1;body 0 0 0 before add 1;");
        x.fact(0, 1);
        due("not yet", x.call(0, 0, 0), 0);
        due("point", x.point(), 1);
        due("now", x.call(0, 0, 0), 1);
        x.fact(0, 0);
        due("still", x.call(0, 0, 0), 1);
        due("awake still", x.layer(0, 4), 1);
        due("point again", x.point(), 0);
        due("no more", x.call(0, 0, 0), 0);
    }

    private static void needsByNumbers() {
        WakingLayers x = CHECK.told("kind;thing 0 0;thing 0 0;layer thing 0;layer ever 0;layer ask 0 need 0 need 1;"
            + "layer ask 0 need 2;layer ask 0 0=1 need 3;layer ask 0 need 4;");
        due("a thing one is needed", x.point(), 0);
        x.wake(0, 1);
        due("for any thing; down to a test", x.point(), 12);
        x.fact(0, 1);
        due("all", x.point(), 60);
    }

    private static void barsAllAtOnce() {
        WakingLayers x = CHECK.told("layer ask 0 0=0;layer ask 0 1=0 bar 0;layer ask 0 2=0 bar 1;");
        due("the barred bars all the same", x.point(), 4);
        x.fact(2, 1);
        due("without the last", x.point(), 2);
        x.fact(1, 1);
        due("without both", x.point(), 1);
        WakingLayers y = CHECK.told("layer ask 0;layer ask 0 bar 0 bar 0;layer ask 0 bar 0;");
        due("barred by two", y.point(), 6);
        due("a set", y.layer(1, 3), 1);
    }

    private static void barsThenNeeds() {
        WakingLayers x = CHECK.told("layer ask 0;layer ask 0 need 0;layer ask 0 need 1;layer ask 0 0=1 bar 0;layer ask 0;");
        due("none barred", x.point(), 23);
        x.fact(0, 1);
        due("one barred, needs over and over", x.point(), 24);
        WakingLayers y = CHECK.told("layer ask 0;layer ask 0 need 0;layer ask 0 need 1 bar 0;");
        due("one bars what it needs itself", y.point(), 0);
        due("and again", y.point(), 0);
    }

    private static void barsOnOthersDoNothing() {
        WakingLayers x = CHECK.told("kind;thing 0 0;layer ever 0;layer span 0;layer thing 0;layer ask 0 bar 0 bar 1 bar 2;");
        x.wake(1, NONE);
        x.wake(2, 0);
        due("point", x.point(), 8);
        due("all are awake", x.count(6), 4);
    }

    private static void wake() {
        WakingLayers x = CHECK.told("kind;thing 0 0;thing 0 0;layer span 0;layer thing 0;layer ask 0;layer ever 0;");
        due("span", x.wake(0, NONE), 1);
        due("span again", x.wake(0, NONE), 2);
        due("thing", x.wake(1, 1), 3);
        due("span for a thing", x.wake(0, 0), BAD);
        due("span for -1", x.wake(0, -1), BAD);
        due("thing for none", x.wake(1, NONE), BAD);
        due("no such thing", x.wake(1, 2), BAD);
        due("thing below", x.wake(1, -1), BAD);
        due("ask", x.wake(2, NONE), BAD);
        due("ever", x.wake(3, NONE), BAD);
        due("ever for a thing", x.wake(3, 0), BAD);
        due("no such layer", x.wake(4, NONE), BAD);
        due("layer below", x.wake(-1, NONE), BAD);
        due("refused changes nothing", x.count(5), 3);
        due("awake", x.count(6), 3);
    }

    private static void wakingsAreCounted() {
        WakingLayers x = CHECK.told("kind;thing 0 0;layer span 0;layer thing 0;");
        for (int k = 1; k <= 16; k++) {
            due("waking " + k, k % 2 == 0 ? x.wake(0, NONE) : x.wake(1, 0), k);
        }
        due("full", x.wake(0, NONE), FULL);
        due("full for a thing", x.wake(1, 0), FULL);
        due("BAD ahead of FULL", x.wake(0, 0), BAD);
        due("count", x.count(5), 16);
        due("of one", x.layer(0, 5), 8);
        for (int k = 7; k >= 0; k--) {
            due("sleep " + k, x.sleep(0), 8 + k);
        }
        due("none of it", x.sleep(0), STATE);
        due("the other's stay", x.layer(1, 5), 8);
    }

    private static void sleep() {
        WakingLayers x = CHECK.told("layer span 0;layer ask 0;layer ever 0;");
        due("none is open", x.sleep(0), STATE);
        due("of ask none is", x.sleep(1), STATE);
        due("of ever none is", x.sleep(2), STATE);
        due("no such", x.sleep(3), BAD);
        due("below", x.sleep(-1), BAD);
        x.wake(0, NONE);
        due("closed", x.sleep(0), 0);
        due("sleeps", x.layer(0, 4), 0);
    }

    private static void sleepClosesTheLatest() {
        WakingLayers x = CHECK.told("kind;thing 0 0;thing 0 0;layer thing 0;layer span 0;"
            + "body 0 0 0 before add 1;body 1 0 0 before add 2;");
        x.wake(0, 0);
        x.wake(1, NONE);
        x.wake(0, 1);
        CHECK.row(x, 0, 0, 1, 0);
        CHECK.row(x, 1, 0, 0, 1);
        due("the latest, of thing 1", x.sleep(0), 2);
        CHECK.row(x, 1, 0, 1);
        CHECK.row(x, 0, 0, 1, 0);
        due("span's, in the middle", x.sleep(1), 1);
        CHECK.row(x, 0, 0, 0);
        due("the first", x.sleep(0), 0);
        CHECK.row(x, 0, 0);
    }

    private static void sleepLosesThoseThatNeed() {
        WakingLayers x = CHECK.told("kind;thing 0 0;thing 0 0;layer thing 0;layer ask 0 need 0;layer ask 0 need 1;layer ask 0;");
        x.wake(0, 0);
        x.wake(0, 1);
        due("found", x.point(), 14);
        x.sleep(0);
        due("for any thing", x.count(6), 4);
        x.sleep(0);
        due("lost, over and over", x.count(6), 1);
        due("the third stays", x.layer(3, 4), 1);
        x.wake(0, 0);
        due("not found till a point", x.layer(1, 4), 0);
        due("point", x.point(), 14);
    }

    private static void wakingFindsNone() {
        WakingLayers x = CHECK.told("layer span 0;layer ask 0 need 0;");
        due("none", x.point(), 0);
        x.wake(0, NONE);
        due("not yet", x.count(6), 1);
        due("found", x.point(), 2);
        due("both", x.count(6), 2);
    }
}
