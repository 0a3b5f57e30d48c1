/** Promises 1 to 9: a new object, sheets, texts, and what is told of a layer. */
public final class SheetsAndTextsTest {
    private static final int NONE = -1000000, BAD = -1000001, STATE = -1000002, FULL = -1000003;
    private static final int NULL = -1000011, PLACE = -1000012, KIND = -1000013, SIZE = -1000014, STORE = -1000015;
    private static final int MIN = Integer.MIN_VALUE, MAX = Integer.MAX_VALUE;
    private static final Check CHECK = new Check();

    public static void main(String[] args) {
        newObject();
        sheet();
        set();
        copy();
        overlappingCopy();
        drop();
        status();
        feed();
        read();
        tokens();
        wholeTape();
        faultsOfKindsAndThings();
        faultsOfLayers();
        faultsOfBodies();
        faultsOfRoom();
        leastFaultOfOneToken();
        faultyTextChangesNothing();
        layer();
        CHECK.finish();
    }

    private static void due(String what, long got, long want) {
        CHECK.due(what, got, want);
    }

    private static void newObject() {
        WakingLayers x = new WakingLayers();
        for (int what = 0; what <= 7; what++) {
            due("new: count(" + what + ")", x.count(what), 0);
        }
        due("new: fault", x.fault(), 0);
        due("new: status", x.status(), 0);
        due("new: ran", x.ran(-1), 0);
        due("new: trace", x.trace(0), NONE);
        due("new: point", x.point(), 0);
        due("new: read", x.read(), 0);
        due("new: set", x.set(7, 0, 0), NULL);
        due("new: fact", x.fact(3, 0), 0);
    }

    private static void sheet() {
        WakingLayers x = new WakingLayers();
        due("sheet least", x.sheet(0, 0, 0), 0);
        due("sheet most", x.sheet(7, 2, 40), 40);
        due("sheet above", x.sheet(8, 0, 1), BAD);
        due("sheet below", x.sheet(-1, 0, 1), BAD);
        due("sheet far", x.sheet(MAX, 0, 1), BAD);
        due("lane above", x.sheet(0, 3, 1), BAD);
        due("lane below", x.sheet(0, -1, 1), BAD);
        due("n above", x.sheet(0, 0, 41), BAD);
        due("n far above", x.sheet(0, 0, MAX), BAD);
        due("n below", x.sheet(0, 0, -1), SIZE);
        due("n far below", x.sheet(0, 0, MIN), SIZE);
        due("BAD ahead of SIZE", x.sheet(8, 0, -1), BAD);
        due("BAD lane ahead of SIZE", x.sheet(0, 3, -1), BAD);
        due("count", x.count(0), 2);
        due("set", x.set(7, 39, 5), 5);
        due("found changes nothing", x.sheet(7, 0, -1), SIZE);
        due("kept", x.copy(7, 39, 7, 0, 1), 1);
        due("in place of it", x.sheet(7, 2, 40), 40);
        x.sheet(1, 2, 4);
        x.fact(0, 9);
        due("items are 0 at first", x.facts(7, 36, 4), 4);
        due("told as 0", x.fact(0, 0), 0);
        due("shorter", x.sheet(7, 0, 1), 1);
        due("no place any more", x.set(7, 1, 0), PLACE);
        due("count still", x.count(0), 3);
    }

    private static void set() {
        WakingLayers x = new WakingLayers();
        x.sheet(0, 0, 2);
        x.sheet(1, 1, 2);
        x.sheet(2, 2, 2);
        due("byte", x.set(0, 0, 127), 127);
        due("byte 128", x.set(0, 0, 128), -128);
        due("byte 255", x.set(0, 0, 255), -1);
        due("byte 256", x.set(0, 0, 256), 0);
        due("byte -129", x.set(0, 0, -129), 127);
        due("short", x.set(1, 1, 32767), 32767);
        due("short 32768", x.set(1, 1, 32768), -32768);
        due("short 65535", x.set(1, 1, 65535), -1);
        due("short 65536", x.set(1, 1, 65536), 0);
        due("int", x.set(2, 1, MAX), MAX);
        due("int least", x.set(2, 1, MIN), MIN);
        due("no sheet", x.set(8, 0, 0), BAD);
        due("sheet below", x.set(-1, 0, 0), BAD);
        due("missing", x.set(3, 0, 0), NULL);
        due("missing and no place", x.set(3, -1, 0), NULL);
        due("place above", x.set(0, 2, 0), PLACE);
        due("place below", x.set(0, -1, 0), PLACE);
        due("place far", x.set(0, MIN, 0), PLACE);
    }

    private static void copy() {
        WakingLayers x = new WakingLayers();
        x.sheet(0, 1, 3);
        x.sheet(1, 1, 5);
        x.sheet(2, 2, 5);
        for (int i = 0; i < 3; i++) {
            x.set(0, i, i + 1);
        }
        due("copy", x.copy(0, 0, 1, 2, 3), 3);
        due("facts", x.facts(1, 1, 4), 4);
        due("first", x.fact(0, 0), 0);
        due("second", x.fact(1, 0), 1);
        due("third", x.fact(2, 0), 2);
        due("fourth", x.fact(3, 0), 3);
        due("none, at both ends", x.copy(0, 3, 1, 5, 0), 0);
        due("beyond a's end", x.copy(0, 1, 1, 0, 3), PLACE);
        due("beyond b's end", x.copy(0, 0, 1, 3, 3), PLACE);
        due("i behind the end", x.copy(0, 4, 1, 0, 0), PLACE);
        due("j behind the end", x.copy(0, 0, 1, 6, 0), PLACE);
        due("i below", x.copy(0, -1, 1, 0, 1), PLACE);
        due("j below", x.copy(0, 0, 1, -1, 1), PLACE);
        due("n below", x.copy(0, 1, 1, 1, -1), PLACE);
        due("n far", x.copy(0, 1, 1, 1, MAX), PLACE);
        due("i far", x.copy(0, MAX, 1, 1, MAX), PLACE);
        due("all least", x.copy(0, MIN, 1, MIN, MIN), PLACE);
        due("two lanes", x.copy(0, 0, 2, 0, 0), STORE);
        due("STORE ahead of PLACE", x.copy(0, -1, 2, 0, 0), STORE);
        due("NULL of a ahead of PLACE", x.copy(3, -1, 2, 0, 0), NULL);
        due("NULL of b", x.copy(0, 0, 3, 0, 0), NULL);
        due("BAD a ahead of NULL", x.copy(8, 0, 3, 0, 0), BAD);
        due("BAD b", x.copy(3, 0, -1, 0, 0), BAD);
    }

    private static void overlappingCopy() {
        for (int to = 0; to <= 2; to += 2) {
            WakingLayers x = new WakingLayers();
            x.sheet(0, 0, 5);
            for (int i = 0; i < 5; i++) {
                x.set(0, i, i + 1);
            }
            due("onto itself", x.copy(0, 2 - to, 0, to, 3), 3);
            x.facts(0, to, 3);
            for (int k = 0; k < 3; k++) {
                due("as it was ahead " + k, x.fact(k, 0), 3 - to + k);
            }
        }
    }

    private static void drop() {
        WakingLayers x = new WakingLayers();
        x.sheet(4, 0, 7);
        due("drop", x.drop(4), 7);
        due("again", x.drop(4), NULL);
        due("count", x.count(0), 0);
        due("missing from now on", x.set(4, 0, 0), NULL);
        due("facts of it", x.facts(4, 0, 1), NULL);
        x.sheet(4, 1, 0);
        due("an empty one is there", x.count(0), 1);
        due("drop an empty one", x.drop(4), 0);
        due("above", x.drop(8), BAD);
        due("below", x.drop(-1), BAD);
    }

    private static void status() {
        WakingLayers x = CHECK.told("layer span 4;");
        x.set(0, 0, 0);
        due("NULL", x.status(), 1);
        due("BAD leaves it", x.set(9, 0, 0) == BAD ? x.status() : -1, 1);
        x.sheet(0, 2, 1);
        due("none", x.status(), 0);
        x.set(0, 1, 0);
        due("PLACE", x.status(), 2);
        due("as other", x.as(0, 3), KIND);
        due("KIND", x.status(), 3);
        due("BAD as leaves it", x.as(1, 0) == BAD ? x.status() : -1, 3);
        x.sheet(1, 0, -1);
        due("SIZE", x.status(), 4);
        x.sheet(1, 0, 1);
        x.copy(0, 0, 1, 0, 1);
        due("STORE", x.status(), 5);
        x.point();
        x.feed(32, 1);
        x.sleep(0);
        x.read();
        due("others leave it", x.status(), 5);
        x.set(0, 0, 10);
        x.copy(0, 0, 1, 0, 1);
        due("an item that is no fact", x.facts(0, 0, 1), BAD);
        due("leaves it", x.status(), 5);
        due("as its own", x.as(0, 1), 4);
        due("none behind as", x.status(), 0);
        x.facts(0, 1, 1);
        due("facts PLACE", x.status(), 2);
        x.set(0, 0, 9);
        due("none behind set", x.status(), 0);
        x.drop(7);
        due("drop NULL", x.status(), 1);
        x.drop(0);
        due("none behind drop", x.status(), 0);
    }

    private static void feed() {
        WakingLayers x = new WakingLayers();
        due("n 0", x.feed(0, 0), BAD);
        due("n 9", x.feed(0, 9), BAD);
        due("n below", x.feed(0, -1), BAD);
        due("lowest bytes, highest first", x.feed(0x7878_6b69_6e64_3bL, 5), 5);
        due("read", x.read(), 0);
        due("a kind", x.count(1), 1);
        for (int k = 1; k <= 75; k++) {
            due("feed " + k, x.feed(0x2020202020202020L, 8), 8 * k);
        }
        due("full", x.feed(32, 1), FULL);
        due("BAD ahead of FULL", x.feed(32, 9), BAD);
        due("count", x.count(7), 600);
        due("read blanks", x.read(), 0);
        due("empty then", x.count(7), 0);
        for (int k = 1; k <= 74; k++) {
            x.feed(0x2020202020202020L, 8);
        }
        due("one short", x.feed(0x20202020202020L, 7), 599);
        due("two are too many", x.feed(0x6b6bL, 2), FULL);
        due("none came", x.count(7), 599);
        due("one more", x.feed(32, 1), 600);
        due("read them", x.read(), 0);
        due("a negative word", x.feed(-1L, 8), 8);
        due("is no token", x.read(), -1000100);
    }

    private static void read() {
        WakingLayers x = CHECK.told("kind;kind under 0;thing 1 99;thing 0 0;layer span 0;");
        due("kinds", x.count(1), 2);
        due("things", x.count(2), 2);
        due("layers", x.count(3), 1);
        Check.feed(x, "body plain 0 0 before;body 0 1 3 around proceed;");
        due("bodies", x.read(), 2);
        due("read nothing", x.read(), 2);
        Check.feed(x, "body plain 0 0 instead add 9 mul 0 own fail call 1 3 wake 0;");
        due("behind what there is", x.read(), 3);
        due("no fault yet", x.fault(), 0);
        CHECK.fault(x, "kin", 0, 1);
        due("tape is empty behind a fault", x.count(7), 0);
        Check.feed(x, "kind;");
        due("read", x.read(), 3);
        due("the latest fault stays", x.fault(), 1);
    }

    private static void tokens() {
        WakingLayers x = CHECK.told("\n kind\n;kind under\n000 ;thing0 07;layer ask 1 3<9;layer ask 1 3<9need 0bar 0;");
        due("kinds", x.count(1), 2);
        due("things", x.count(2), 1);
        due("layers", x.count(3), 2);
        CHECK.fault(x, "kind\t;", 4, 1);
        CHECK.fault(x, "Kind;", 0, 1);
        CHECK.fault(x, "kind under 0000;", 11, 1);
        CHECK.fault(x, "kind under 999;", 11, 2);
        CHECK.fault(x, "kind  ", 6, 1);
        CHECK.fault(x, "kind \n \u00ff;", 7, 1);
        CHECK.fault(x, "kindkind;", 0, 1);
        CHECK.fault(x, "  ;", 2, 1);
        CHECK.fault(x, "kind;0", 5, 1);
        CHECK.fault(x, "kind;<", 5, 1);
        CHECK.fault(x, "kind:", 4, 1);
    }

    private static void wholeTape() {
        WakingLayers x = new WakingLayers();
        String blanks = " ".repeat(595);
        CHECK.fault(x, blanks + "kinds", 595, 1);
        CHECK.fault(x, blanks + "kind ", 600, 1);
        CHECK.fault(x, " " + blanks + "kind", 600, 1);
        CHECK.fault(x, ("kind" + blanks).substring(0, 598) + "00", 598, 1);
        CHECK.fault(x, "kind", 4, 1);
        CHECK.fault(x, "k", 0, 1);
        Check.feed(x, blanks + "kind;");
        due("all of it", x.read(), 0);
        due("a kind", x.count(1), 1);
        CHECK.fault(x, "zebra;", 0, 1);
        CHECK.fault(x, "`", 0, 1);
        CHECK.fault(x, "{", 0, 1);
        CHECK.fault(x, "kind under 1/", 11, 2);
        CHECK.fault(x, "kind under 0:", 12, 1);
    }

    private static void faultsOfKindsAndThings() {
        WakingLayers x = CHECK.told("kind;");
        CHECK.fault(x, "kind under;", 10, 1);
        CHECK.fault(x, "kind under 1;", 11, 2);
        CHECK.fault(x, "kind;kind under 2;", 16, 2);
        CHECK.fault(x, "kind over 0;", 5, 1);
        CHECK.fault(x, "kind under 0 0;", 13, 1);
        CHECK.fault(x, "kind under 0", 12, 1);
        CHECK.fault(x, "thing;", 5, 1);
        CHECK.fault(x, "thing 1 0;", 6, 2);
        CHECK.fault(x, "thing 0 100;", 8, 2);
        CHECK.fault(x, "thing 0;", 7, 1);
        CHECK.fault(x, "thing 0 0 0;", 10, 1);
        CHECK.fault(x, "thing 0 0", 9, 1);
        CHECK.fault(x, "things 0 0;", 0, 1);
        due("kinds", x.count(1), 1);
        due("things", x.count(2), 0);
    }

    private static void faultsOfLayers() {
        WakingLayers x = CHECK.told("layer span 9;layer thing 0;layer ever 3;layer ask 2;");
        CHECK.fault(x, "layer;", 5, 1);
        CHECK.fault(x, "layer asks 1;", 6, 1);
        CHECK.fault(x, "layer ask;", 9, 1);
        CHECK.fault(x, "layer ask 10;", 10, 2);
        CHECK.fault(x, "layer ask 1 4=1;", 12, 2);
        CHECK.fault(x, "layer ask 1 3;", 13, 1);
        CHECK.fault(x, "layer ask 1 3;1;", 13, 1);
        CHECK.fault(x, "layer ask 1 3=;", 14, 1);
        CHECK.fault(x, "layer ask 1 3==1;", 14, 1);
        CHECK.fault(x, "layer ask 1 3=10;", 14, 2);
        CHECK.fault(x, "layer ask 1 3=1 3=1;", 16, 1);
        CHECK.fault(x, "layer ask 1 need 0 3=1;", 19, 1);
        CHECK.fault(x, "layer ask 1 need 4;", 17, 2);
        CHECK.fault(x, "layer ask 1 bar 4;", 16, 2);
        CHECK.fault(x, "layer ask 1 need;", 16, 1);
        CHECK.fault(x, "layer ask 1 need 0 0;", 19, 1);
        CHECK.fault(x, "layer ask 1 needs 0;", 12, 1);
        CHECK.fault(x, "layer span 1 need 0;", 13, 1);
        CHECK.fault(x, "layer thing 1 bar 0;", 14, 1);
        CHECK.fault(x, "layer ever 1 0=1;", 13, 1);
        CHECK.fault(x, "layer ask 1 0=1 bar 0 need 1", 28, 1);
        due("layers", x.count(3), 4);
    }

    private static void faultsOfBodies() {
        WakingLayers x = CHECK.told("kind;thing 0 1;layer span 9;layer thing 0;layer ever 3;layer ask 2;");
        CHECK.fault(x, "body;", 4, 1);
        CHECK.fault(x, "body flat 0 0 before;", 5, 1);
        CHECK.fault(x, "body 4 0 0 before;", 5, 2);
        CHECK.fault(x, "body plain 1 0 before;", 11, 2);
        CHECK.fault(x, "body plain 0 4 before;", 13, 2);
        CHECK.fault(x, "body plain 0 0;", 14, 1);
        CHECK.fault(x, "body plain 0 0 after;", 15, 1);
        CHECK.fault(x, "body plain 0 0 before 1;", 22, 1);
        CHECK.fault(x, "body plain 0 0 before sub 1;", 22, 1);
        CHECK.fault(x, "body plain 0 0 before add 10;", 26, 2);
        CHECK.fault(x, "body plain 0 0 before mul;", 25, 1);
        CHECK.fault(x, "body plain 0 0 before mul 10;", 26, 2);
        CHECK.fault(x, "body plain 0 0 before own 1;", 26, 1);
        CHECK.fault(x, "body plain 0 0 before proceed;", 22, 1);
        CHECK.fault(x, "body plain 0 0 behind proceed;", 22, 1);
        CHECK.fault(x, "body plain 0 0 instead proceed;", 23, 1);
        CHECK.fault(x, "body plain 0 0 before call 1 0;", 27, 2);
        CHECK.fault(x, "body plain 0 0 before call 0 4;", 29, 2);
        CHECK.fault(x, "body plain 0 0 before call 0;", 28, 1);
        CHECK.fault(x, "body plain 0 0 before wake 2;", 27, 2);
        CHECK.fault(x, "body plain 0 0 before wake 3;", 27, 2);
        CHECK.fault(x, "body plain 0 0 before wake 4;", 27, 2);
        CHECK.fault(x, "body plain 0 0 before wake;", 26, 1);
        CHECK.fault(x, "body plain 0 0 before fail", 26, 1);
        due("bodies", x.count(4), 0);
        Check.feed(x, "body 0 0 0 around proceed wake 0 wake 1 call 0 3;body 3 0 0 before;");
        due("all right", x.read(), 2);
    }

    private static void faultsOfRoom() {
        WakingLayers x = CHECK.told("kind;".repeat(8), "thing 7 1;".repeat(8), "layer ever 1;".repeat(8));
        CHECK.fault(x, "kind;", 0, 3);
        CHECK.fault(x, "thing 0 0;", 0, 3);
        CHECK.fault(x, " layer ask 1;", 1, 3);
        String body = "body 7 7 3 before;";
        Check.feed(x, body.repeat(23));
        due("23 bodies", x.read(), 23);
        CHECK.fault(x, body + body, 18, 3);
        Check.feed(x, body);
        due("24 bodies", x.read(), 24);
        CHECK.fault(x, "body", 0, 3);
        WakingLayers y = CHECK.told("kind;", "body plain 0 0 before own own own own own own;");
        due("six acts", y.count(4), 1);
        CHECK.fault(y, "body plain 0 0 before own own own own own own fail;", 46, 3);
    }

    private static void leastFaultOfOneToken() {
        WakingLayers x = CHECK.told("kind;".repeat(8));
        CHECK.fault(x, "kinds;", 0, 1);
        CHECK.fault(x, "body plain 0 0 before own own own own own own proceed;", 46, 1);
        CHECK.fault(x, "body plain 0 0 around own own own own own own proceed;", 46, 3);
        CHECK.fault(x, "body plain 0 0 around own own own own own own 7;", 46, 1);
        CHECK.fault(x, "body plain 0 0 around own own own own own own", 45, 1);
    }

    private static void faultyTextChangesNothing() {
        WakingLayers x = CHECK.told("kind;thing 0 5;layer span 3;body plain 0 0 before add 1;");
        CHECK.fault(x, "kind;thing 1 9;layer ever 1;body 1 0 0 before add 9;layer ask 11;", 62, 2);
        due("kinds", x.count(1), 1);
        due("things", x.count(2), 1);
        due("layers", x.count(3), 1);
        due("bodies", x.count(4), 1);
        due("awake", x.count(6), 0);
        due("call", x.call(0, 0, 1), 2);
        due("no such thing", x.call(1, 0, 1), BAD);
        Check.feed(x, "layer ask 4 need 0;");
        due("read", x.read(), 1);
        due("sort", x.layer(1, 0), 2);
        due("needs", x.layer(1, 2), 1);
        CHECK.fault(x, "layer ask 4 0=5 need 0 bar 1;layer", 34, 1);
        Check.feed(x, "layer ask 4;");
        due("read", x.read(), 1);
        due("nothing is left of a needed set", x.layer(2, 2), 0);
        due("nor of a barred one", x.layer(2, 3), 0);
        due("nor of a test", x.point(), 4);
        due("sleeps still", x.sleep(0), STATE);
    }

    private static void layer() {
        WakingLayers x = CHECK.told("kind;thing 0 1;layer span 9;layer thing 8;layer ask 7 need 0 need 1 need 0 bar 1;"
            + "layer ever 0;layer ask 0 bar 0 bar 3 need 2;");
        int[][] told = {{0, 9, 0, 0}, {1, 8, 0, 0}, {2, 7, 3, 2}, {3, 0, 0, 0}, {2, 0, 4, 9}};
        for (int layer = 0; layer < told.length; layer++) {
            for (int what = 0; what < 4; what++) {
                due("layer(" + layer + ", " + what + ")", x.layer(layer, what), told[layer][what]);
            }
        }
        due("span sleeps", x.layer(0, 4), 0);
        due("ever is awake", x.layer(3, 4), 1);
        x.wake(0, NONE);
        x.wake(0, NONE);
        x.wake(1, 0);
        due("span is awake", x.layer(0, 4), 1);
        due("open of it", x.layer(0, 5), 2);
        due("thing is awake for some thing", x.layer(1, 4), 1);
        due("open of thing", x.layer(1, 5), 1);
        due("ask sleeps till a point", x.layer(2, 4), 0);
        due("point", x.point(), 20);
        due("ask is awake", x.layer(2, 4), 1);
        due("ask has none open", x.layer(2, 5), 0);
        due("what above", x.layer(0, 6), BAD);
        due("what below", x.layer(0, -1), BAD);
        due("layer above", x.layer(5, 0), BAD);
        due("layer below", x.layer(-1, 0), BAD);
        due("layer far", x.layer(MAX, 0), BAD);
    }
}
