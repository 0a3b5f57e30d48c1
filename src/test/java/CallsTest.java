/** Promises 15 to 19: rows, calls, what ran, together, same. */
public final class CallsTest {
    private static final int NONE = -1000000, BAD = -1000001, FAILS = -1000004;
    private static final Check CHECK = new Check();

    public static void main(String[] args) {
        rowIsRefused();
        rowByKindsAndTelling();
        rowByRanks();
        rowByLatestWakings();
        rowEndsBehindInstead();
        callIsRefused();
        acts();
        modulus();
        ways();
        around();
        behindFailures();
        failures();
        wakeActs();
        wakeActsForTheCallsThing();
        wakeActsWithoutRoom();
        rowStaysAsItWas();
        sixDeep();
        sixtyBodies();
        spentDoesNoActsOfBehind();
        spentByBodies();
        ran();
        together();
        togetherWithWakings();
        same();
        sameLosesThoseThatNeed();
        sameLeavesAllAsItIs();
        CHECK.finish();
    }

    private static void due(String what, long got, long want) {
        CHECK.due(what, got, want);
    }

    private static void rowIsRefused() {
        WakingLayers x = CHECK.told("kind;thing 0 0;");
        due("no such thing", x.row(1, 0, -1), BAD);
        due("thing below", x.row(-1, 0, -1), BAD);
        due("routine above", x.row(0, 4, -1), BAD);
        due("routine below", x.row(0, -1, -1), BAD);
        due("i below", x.row(0, 0, -2), BAD);
        due("i least", x.row(0, 0, Integer.MIN_VALUE), BAD);
        due("i far", x.row(0, 0, Integer.MAX_VALUE), NONE);
        due("empty", x.row(0, 3, -1), 0);
    }

    private static void rowByKindsAndTelling() {
        WakingLayers x = CHECK.told("kind;kind under 0;kind under 1;kind;thing 2 0;thing 1 0;thing 3 0;layer ever 0;",
            "body plain 0 0 before;body plain 2 0 before;body 0 0 0 before;body 0 2 0 before;body plain 1 0 before;"
            + "body plain 2 0 before;body 0 1 0 before;body 0 2 1 before;body 0 2 0 behind;");
        CHECK.row(x, 0, 0, 3, 8, 6, 2, 1, 5, 4, 0);
        CHECK.row(x, 1, 0, 6, 2, 4, 0);
        CHECK.row(x, 2, 0);
        CHECK.row(x, 0, 1, 7);
        CHECK.row(x, 1, 1);
    }

    private static void rowByRanks() {
        WakingLayers x = CHECK.told("kind;thing 0 0;layer ask 3;layer ever 3;layer ask 3;layer span 3;layer ever 9;layer span 0;"
            + "layer ever 2;layer ask 4 0=1;",
            "body 0 0 0 before;body 1 0 0 before;body 2 0 0 before;body 3 0 0 before;body 4 0 0 before;body 5 0 0 before;"
            + "body 6 0 0 before;body 7 0 0 before;body plain 0 0 before;");
        CHECK.row(x, 0, 0, 4, 1, 6, 8);
        x.point();
        CHECK.row(x, 0, 0, 4, 0, 1, 2, 6, 8);
        x.wake(3, NONE);
        x.wake(5, NONE);
        CHECK.row(x, 0, 0, 4, 3, 0, 1, 2, 6, 5, 8);
        x.fact(0, 1);
        x.point();
        CHECK.row(x, 0, 0, 4, 7, 3, 0, 1, 2, 6, 5, 8);
    }

    private static void rowByLatestWakings() {
        WakingLayers x = CHECK.told("kind;thing 0 0;thing 0 0;layer span 1;layer thing 1;layer span 1;",
            "body 0 0 0 before;body 1 0 0 before;body 2 0 0 before;");
        x.wake(0, NONE);
        x.wake(1, 0);
        x.wake(2, NONE);
        CHECK.row(x, 0, 0, 2, 1, 0);
        CHECK.row(x, 1, 0, 2, 0);
        x.wake(0, NONE);
        CHECK.row(x, 0, 0, 0, 2, 1);
        x.wake(1, 1);
        CHECK.row(x, 0, 0, 0, 2, 1);
        CHECK.row(x, 1, 0, 1, 0, 2);
        x.sleep(0);
        CHECK.row(x, 0, 0, 2, 1, 0);
        CHECK.row(x, 1, 0, 1, 2, 0);
    }

    private static void rowEndsBehindInstead() {
        WakingLayers x = CHECK.told("kind;kind under 0;thing 1 0;thing 0 0;layer ever 0;",
            "body plain 1 0 before;body 0 1 1 instead;body plain 0 0 instead;body plain 0 0 before;body 0 0 1 before;"
            + "body plain 1 1 before;body 0 1 2 before;body 0 1 2 instead;body 0 1 2 instead;");
        CHECK.row(x, 0, 0, 0, 2);
        CHECK.row(x, 1, 0, 2);
        CHECK.row(x, 0, 1, 1);
        CHECK.row(x, 1, 1, 4);
        CHECK.row(x, 0, 2, 6, 7);
    }

    private static void callIsRefused() {
        WakingLayers x = CHECK.told("kind;thing 0 3;body plain 0 0 before own;");
        due("call", x.call(0, 0, 1000002), 2);
        CHECK.ran(x, 0);
        due("no such thing", x.call(1, 0, 0), BAD);
        due("thing below", x.call(-1, 0, 0), BAD);
        due("routine above", x.call(0, 4, 0), BAD);
        due("routine below", x.call(0, -1, 0), BAD);
        due("number above", x.call(0, 0, 1000003), BAD);
        due("number below", x.call(0, 0, -1), BAD);
        CHECK.ran(x, 0);
        due("an empty row", x.call(0, 1, 5), 5);
        CHECK.ran(x);
    }

    private static void acts() {
        WakingLayers x = CHECK.told("kind;kind;thing 0 40;thing 1 7;",
            "body plain 0 0 instead add 3 mul 4 own;body plain 0 1 before call 1 0 add 1;body plain 1 0 instead own own;"
            + "body plain 0 2 before fail add 1;body plain 0 3 instead;");
        due("add, mul, own", x.call(0, 0, 2), 60);
        due("call of another thing", x.call(0, 1, 1), 16);
        CHECK.ran(x, 1, 2);
        due("fail", x.call(0, 2, 1), FAILS);
        CHECK.ran(x, 3);
        due("no acts", x.call(0, 3, 1), 1);
        CHECK.ran(x, 4);
    }

    private static void modulus() {
        WakingLayers x = CHECK.told("kind;thing 0 99;",
            "body plain 0 0 instead add 9;body plain 0 1 instead mul 9;body plain 0 2 instead own;body plain 0 3 instead mul 0;");
        due("add to 0", x.call(0, 0, 1000003 - 9), 0);
        due("add below", x.call(0, 0, 1000003 - 10), 1000002);
        due("mul", x.call(0, 1, 1000002), 1000003 - 9);
        due("own", x.call(0, 2, 1000002), 98);
        due("mul 0", x.call(0, 3, 1000002), 0);
    }

    private static void ways() {
        WakingLayers x = CHECK.told("kind;thing 0 0;layer ever 0;",
            "body 0 0 0 before add 1;body plain 0 0 instead mul 2;body 0 0 1 behind add 1;body plain 0 1 instead mul 2;"
            + "body 0 0 2 around mul 2;body plain 0 2 instead add 9;body 0 0 3 before add 1;body plain 0 3 behind mul 3;");
        due("before", x.call(0, 0, 5), 12);
        CHECK.ran(x, 0, 1);
        due("behind", x.call(0, 1, 5), 11);
        CHECK.ran(x, 2, 3);
        due("behind what gives 0", x.call(0, 1, 0), 1);
        due("around without proceed", x.call(0, 2, 5), 10);
        CHECK.ran(x, 4);
        due("behind the last body", x.call(0, 3, 5), 18);
        CHECK.ran(x, 6, 7);
    }

    private static void around() {
        WakingLayers x = CHECK.told("kind;thing 0 0;layer ever 0;",
            "body 0 0 0 around add 1 proceed mul 2 proceed add 3;body plain 0 0 before add 5;body plain 0 1 around proceed proceed;");
        due("twice", x.call(0, 0, 1), 22);
        CHECK.ran(x, 0, 1, 1);
        due("proceed behind the last", x.call(0, 1, 8), 8);
        CHECK.ran(x, 2);
    }

    private static void behindFailures() {
        WakingLayers x = CHECK.told("kind;thing 0 0;thing 0 0;layer ever 0;",
            "body 0 0 0 behind call 1 1 call 1 2;body plain 0 0 instead add 9 fail;body plain 0 1 instead add 1;"
            + "body plain 0 2 before mul 2;body 0 0 3 behind call 1 0 call 1 1;body plain 0 3 instead fail;");
        due("its acts are done, it fails all the same", x.call(0, 0, 3), FAILS);
        CHECK.ran(x, 0, 1, 2, 3);
        due("acts that fail end there", x.call(0, 3, 3), FAILS);
        CHECK.ran(x, 4, 5, 0, 1, 2, 3);
    }

    private static void failures() {
        WakingLayers x = CHECK.told("kind;thing 0 0;layer ever 5;",
            "body 0 0 0 before call 0 1;body plain 0 0 before add 1;body plain 0 1 around proceed add 1;body plain 0 1 around fail;"
            + "body plain 0 2 around call 0 1 call 0 3;body plain 0 3 before;");
        due("a failure goes up", x.call(0, 0, 0), FAILS);
        CHECK.ran(x, 0, 2, 3);
        due("through calls", x.call(0, 2, 0), FAILS);
        CHECK.ran(x, 4, 2, 3);
    }

    private static void wakeActs() {
        WakingLayers x = CHECK.told("kind;thing 0 0;layer span 1;layer ask 2 need 0;",
            "body plain 0 0 instead call 0 1 wake 0 call 0 1 call 0 2;body plain 0 1 instead add 1;body 0 0 1 before add 5;"
            + "body plain 0 2 before wake 0 wake 0;body plain 0 2 around wake 0 call 0 1 fail;body plain 0 3 before wake 0;"
            + "body plain 0 3 instead call 0 1;body 1 0 1 before add 7;");
        due("awake from the act on; failing", x.call(0, 0, 0), FAILS);
        CHECK.ran(x, 0, 1, 2, 1, 3, 4, 2, 1);
        due("closed on every way out", x.count(5), 0);
        due("asleep", x.layer(0, 4), 0);
        due("before stays open for the next body", x.call(0, 3, 0), 6);
        CHECK.ran(x, 5, 6, 2, 1);
        due("closed", x.count(5), 0);
        x.wake(0, NONE);
        due("found", x.point(), 2);
        due("call", x.call(0, 3, 0), 13);
        CHECK.ran(x, 5, 6, 7, 2, 1);
        due("still found", x.layer(1, 4), 1);
        due("still open", x.count(5), 1);
    }

    private static void wakeActsForTheCallsThing() {
        WakingLayers x = CHECK.told("kind;thing 0 3;thing 0 4;layer thing 1;layer span 1;",
            "body plain 0 0 instead wake 0 call 0 1 call 1 1;body plain 0 1 instead own;body 0 0 1 before mul 2;"
            + "body plain 0 2 instead wake 0 wake 1 wake 0 call 0 3;body 0 0 3 before;body 1 0 3 before;");
        due("for thing 0 alone", x.call(0, 0, 1), 9);
        CHECK.ran(x, 0, 2, 1, 1);
        due("for thing 1 alone", x.call(1, 0, 1), 12);
        CHECK.ran(x, 0, 1, 2, 1);
        due("the latest first", x.call(0, 2, 0), 0);
        CHECK.ran(x, 3, 4, 5);
    }

    private static void wakeActsWithoutRoom() {
        WakingLayers x = CHECK.told("kind;thing 0 0;layer span 1;",
            "body plain 0 0 around wake 0 add 1;body plain 0 1 behind add 1 wake 0 wake 0 call 0 2;body plain 0 2 before;");
        for (int k = 0; k < 15; k++) {
            x.wake(0, NONE);
        }
        due("the 16th", x.call(0, 0, 0), 1);
        due("the 17th", x.call(0, 1, 0), FAILS);
        CHECK.ran(x, 1);
        due("15 again", x.count(5), 15);
        x.wake(0, NONE);
        due("no room", x.call(0, 0, 0), FAILS);
        CHECK.ran(x, 0);
        due("16", x.count(5), 16);
    }

    private static void rowStaysAsItWas() {
        WakingLayers x = CHECK.told("kind;thing 0 0;layer ever 9;layer span 5;",
            "body 0 0 0 before wake 1;body 1 0 0 before add 5;body plain 0 0 instead call 0 1;body 1 0 1 before add 7;");
        due("the row does not take the layer woken", x.call(0, 0, 0), 7);
        CHECK.ran(x, 0, 2, 3);
    }

    private static void sixDeep() {
        WakingLayers x = CHECK.told("kind;".repeat(6) + "thing 0 0;thing 1 0;thing 2 0;thing 3 0;thing 4 0;thing 5 0;",
            "body plain 0 0 before call 1 0;body plain 1 0 before call 2 0;body plain 2 0 before call 3 0;"
            + "body plain 3 0 before call 4 0;body plain 4 0 before call 5 0;body plain 5 0 before add 1;body plain 5 1 before call 0 3;",
            "body plain 0 1 behind call 0 2;body plain 0 1 before call 1 1;body plain 1 1 before call 2 1;body plain 2 1 before call 3 1;"
            + "body plain 3 1 before call 4 1;body plain 4 1 before call 5 1;");
        due("six deep", x.call(0, 0, 0), 1);
        CHECK.ran(x, 0, 1, 2, 3, 4, 5);
        due("a seventh, even of an empty row", x.call(0, 1, 0), FAILS);
        CHECK.ran(x, 7, 8, 9, 10, 11, 12, 6);
        due("one less", x.call(1, 1, 7), 7);
        CHECK.ran(x, 9, 10, 11, 12, 6);
    }

    private static void sixtyBodies() {
        String five = "body plain 0 1 before add 1;".repeat(5);
        WakingLayers x = CHECK.told("kind;thing 0 0;thing 0 0;",
            five + five, "body plain 0 0 around call 0 1 call 0 1 call 0 1 call 0 1 call 0 1;body plain 0 0 before;" + "body plain 0 2 around call 0 0 call 0 3;"
            + "body plain 0 3 before call 1 3;");
        due("51", x.call(0, 0, 0), 50);
        due("begun", x.ran(-1), 51);
        due("the first", x.ran(0), 10);
        due("the 40th", x.ran(39), 8);
        due("the 41st", x.ran(40), NONE);
        due("51, and 5 more deep", x.call(0, 2, 0), FAILS);
        WakingLayers y = CHECK.told("kind;thing 0 0;", five + five,
            "body plain 0 0 around call 0 1 call 0 1 call 0 1 call 0 1 call 0 1 proceed;" + "body plain 0 0 before;".repeat(9) + "body plain 0 2 before call 0 0;");
        due("60", y.call(0, 0, 0), 50);
        due("60 begun", y.ran(-1), 60);
        due("61", y.call(0, 2, 0), FAILS);
        due("60 begun of 61", y.ran(-1), 60);
        due("60 anew", y.call(0, 0, 1), 51);
    }

    private static void spentDoesNoActsOfBehind() {
        WakingLayers x = CHECK.told("kind;thing 0 0;thing 0 0;layer ever 1;",
            "body 0 0 0 behind call 1 2;body plain 0 0 instead call 0 0;body plain 0 2 before;"
            + "body 0 0 1 behind call 1 2;body plain 0 1 before fail;body plain 0 3 behind call 1 2;body plain 0 3 around call 0 1 add 1;");
        due("too deep", x.call(0, 0, 0), FAILS);
        CHECK.ran(x, 0, 1, 0, 1, 0, 1, 0, 1, 0, 1, 0, 1);
        due("failing, not spent", x.call(0, 3, 0), FAILS);
        CHECK.ran(x, 5, 6, 3, 4, 2, 2);
        due("anew", x.call(0, 1, 0), FAILS);
        CHECK.ran(x, 3, 4, 2);
    }

    private static void spentByBodies() {
        WakingLayers x = CHECK.told("kind;thing 0 0;", "body plain 0 1 before;".repeat(10),
            "body plain 0 0 behind call 0 3;body plain 0 0 around call 0 1 call 0 1 call 0 1 call 0 1 call 0 1 call 0 2;"
            + "body plain 0 2 behind call 0 3;" + "body plain 0 2 before;".repeat(7) + "body plain 0 3 before;");
        due("60 with the last act", x.call(0, 0, 0), FAILS);
        due("60 begun", x.ran(-1), 60);
        due("anew", x.call(0, 2, 4), 4);
        CHECK.ran(x, 12, 13, 14, 15, 16, 17, 18, 19, 20);
    }

    private static void ran() {
        WakingLayers x = CHECK.told("kind;thing 0 0;body plain 0 0 before;body plain 0 0 before;");
        due("none yet", x.ran(-1), 0);
        due("below", x.ran(-2), NONE);
        x.call(0, 0, 0);
        CHECK.ran(x, 0, 1);
        due("least", x.ran(Integer.MIN_VALUE), NONE);
        due("far", x.ran(Integer.MAX_VALUE), NONE);
        x.row(0, 0, -1);
        x.point();
        CHECK.ran(x, 0, 1);
    }

    private static void together() {
        WakingLayers x = CHECK.told("layer ask 0 0<1;layer ask 0 0>1;layer ask 0 0=3;layer ask 0 1=3 bar 2;");
        due("m 0", x.together(0, -1), BAD);
        due("m 4", x.together(4, -1), BAD);
        due("m below", x.together(-1, -1), BAD);
        due("i below", x.together(1, -2), BAD);
        due("far", x.together(1, Integer.MAX_VALUE), NONE);
        CHECK.sets(x, 1, 0, 1);
        CHECK.sets(x, 2, 0, 1, 2);
        CHECK.sets(x, 3, 0, 1, 2, 6, 8, 9, 10);
        x.fact(0, 9);
        due("facts as they are told", x.point(), 2);
        CHECK.sets(x, 1, 0, 1);
        due("found is as it was", x.layer(1, 4), 1);
        due("facts are as they were", x.fact(0, 9), 9);
        WakingLayers y = CHECK.told("layer ask 0 0=1;layer ask 0 1=1;layer ask 0 2=1;layer ask 0 3=1;"
            + "layer ask 0 0=2;layer ask 0 1=2;layer ask 0 2=2;layer ask 0 3=2;");
        due("many sets", y.together(1, -1), 16);
        due("more sets", y.together(2, -1), 81);
        due("the last", y.together(2, 80), 240);
        due("as many for 3", y.together(3, -1), 81);
    }

    private static void togetherWithWakings() {
        WakingLayers x = CHECK.told("layer span 0;layer ask 0 0=1 need 0;layer ever 0;layer ask 0 need 2;");
        CHECK.sets(x, 1, 8);
        x.wake(0, NONE);
        CHECK.sets(x, 1, 8, 10);
        due("found none yet", x.layer(3, 4), 0);
        x.sleep(0);
        CHECK.sets(x, 1, 8);
    }

    private static void same() {
        WakingLayers x = CHECK.told("kind;thing 0 0;layer ask 1 0=2;layer ask 1 1=1;layer ask 1 2=3;layer ever 1;layer ask 0 3=1;",
            "body 0 0 0 before add 1;body 1 0 0 before mul 1;body 2 0 0 before fail;body 4 0 1 before fail;body plain 0 1 instead fail;");
        due("changes at 2 alone", x.same(0, 0, 0, 5, 1), 1);
        due("changes at 2", x.same(0, 0, 0, 5, 2), 0);
        due("does nothing", x.same(1, 0, 0, 5, 3), 1);
        due("fails at 3 alone", x.same(2, 0, 0, 5, 2), 1);
        due("fails at 3", x.same(2, 0, 0, 5, 3), 0);
        due("fails with it and without", x.same(4, 0, 1, 5, 1), 1);
        due("another routine", x.same(0, 0, 3, 5, 3), 1);
        due("not ask", x.same(3, 0, 0, 5, 1), BAD);
        due("no such layer", x.same(5, 0, 0, 5, 1), BAD);
        due("layer below", x.same(-1, 0, 0, 5, 1), BAD);
        due("no such thing", x.same(0, 1, 0, 5, 1), BAD);
        due("routine", x.same(0, 0, 4, 5, 1), BAD);
        due("number above", x.same(0, 0, 0, 1000003, 1), BAD);
        due("number below", x.same(0, 0, 0, -1, 1), BAD);
        due("m 0", x.same(0, 0, 0, 5, 0), BAD);
        due("m 4", x.same(0, 0, 0, 5, 4), BAD);
        WakingLayers y = CHECK.told("kind;thing 0 0;layer ask 0 0=1;body 0 0 0 before mul 2;");
        due("of 0 nothing changes", y.same(0, 0, 0, 0, 1), 1);
        due("of 1 it does", y.same(0, 0, 0, 1, 1), 0);
    }

    private static void sameLosesThoseThatNeed() {
        WakingLayers x = CHECK.told("kind;thing 0 0;layer ask 0;layer ask 0 need 0;layer ask 0 need 1;layer ask 0 bar 1;",
            "body 2 0 0 before add 1;body 3 0 1 before add 1;body 1 0 1 before add 2;");
        due("a layer barred everywhere", x.same(1, 0, 1, 0, 1), 1);
        due("and those that need it", x.same(2, 0, 0, 0, 1), 1);
        WakingLayers y = CHECK.told("kind;thing 0 0;layer ask 0;layer ask 0 need 0;layer ask 0 need 1;body 2 0 0 before add 1;");
        due("its loss loses another", y.same(0, 0, 0, 0, 1), 0);
        WakingLayers z = CHECK.told("kind;thing 0 0;layer ask 0 0=1;layer ask 0 0=1 bar 0;body 0 0 0 before add 1;");
        due("what it bars does not come back", z.same(1, 0, 0, 0, 1), 1);
    }

    private static void sameLeavesAllAsItIs() {
        WakingLayers x = CHECK.told("kind;thing 0 0;layer ask 0 0=1;layer span 0;layer ask 0;",
            "body 0 0 0 before add 1;body 2 0 0 before add 2;body 2 0 1 before wake 1 fail;");
        x.fact(0, 1);
        x.wake(1, NONE);
        x.call(0, 0, 0);
        CHECK.ran(x);
        due("point", x.point(), 5);
        due("call", x.call(0, 0, 0), 3);
        due("same", x.same(2, 0, 1, 0, 3), 0);
        due("same of one asleep in some", x.same(0, 0, 0, 0, 3), 0);
        CHECK.ran(x, 0, 1);
        due("found", x.layer(0, 4) + x.layer(2, 4), 2);
        due("open", x.count(5), 1);
        due("told", x.fact(0, 0), 1);
        due("call again", x.call(0, 0, 0), 3);
    }
}
