/**
 * The boundary cases of texts: promises 6 to 9, and what the terms say of texts and their faults.
 * Ahead of each test stands the sentence of the document that it would find broken.
 */
public final class TextBoundariesTest {
    private static final int NONE = -1000000, BAD = -1000001, FULL = -1000003;
    private static final int MIN = Integer.MIN_VALUE, MAX = Integer.MAX_VALUE;
    private static final String WORLD = "kind;thing 0 1;layer span 1;layer thing 1;layer ask 1;layer ever 1;";
    private static final Check CHECK = new Check();

    public static void main(String[] args) {
        feedNumbers();
        feedLowestBytes();
        feedFull();
        tapeIsEmptyThen();
        names();
        wholeWords();
        numbersOfThreeFigures();
        signs();
        bytesBetween();
        otherBytes();
        emptyTexts();
        theEnd();
        unders();
        things();
        ranks();
        sorts();
        tests();
        needsAndBars();
        withAskAlone();
        owners();
        routines();
        ways();
        numbersOfActs();
        addAndMul();
        callActs();
        wakeActs();
        ownAndFail();
        proceed();
        roomForKinds();
        roomForThings();
        roomForLayers();
        roomForBodies();
        roomForActs();
        aheadCountsForBehind();
        behindWhatThereIs();
        firstTokenThatHasOne();
        leastOfOneToken();
        nothingComes();
        nothingIsLeft();
        latestFault();
        layerIsRefused();
        layerSets();
        CHECK.finish();
    }

    private static void due(String what, long got, long want) {
        CHECK.due(what, got, want);
    }

    private static void fault(String ahead, String text, int place, int number) {
        CHECK.fault(ahead, text, place, number);
    }

    private static void fine(String ahead, String text) {
        CHECK.fine(ahead, text);
    }

    // feed: "(1 to 8)", "BAD: n"
    private static void feedNumbers() {
        WakingLayers x = new WakingLayers();
        for (int n : new int[] {0, 9, -1, MIN, MAX}) {
            due("feed " + n, x.feed(0x2020202020202020L, n), BAD);
        }
        due("feed: none came", x.count(7), 0);
        int all = 0;
        for (int n = 1; n <= 8; n++) {
            all += n;
            due("feed " + n, x.feed(0x2020202020202020L, n), all);
        }
        due("feed: count", x.count(7), all);
    }

    // "The lowest n bytes of w ..., the highest of them first, come behind the tape"
    private static void feedLowestBytes() {
        WakingLayers x = new WakingLayers();
        x.feed(0x7a7a7a7a7a7a7a6bL, 1);
        x.feed(0x7a7a7a7a7a7a696eL, 2);
        x.feed(0xffffffffffff643bL, 2);
        due("kind;", x.read(), 0);
        due("kind; is there", x.count(1), 1);
        x.feed(0x6c61796572206576L, 8);
        x.feed(0x006572_20_39_3bL, 5);
        due("layer ever 9;", x.read(), 0);
        due("layer ever 9; is there", x.layer(0, 1), 9);
        x.feed(-1L, 8);
        due("a byte 255 is no token", x.read(), -1000100);
        x.feed(Long.MIN_VALUE, 8);
        due("a byte 128 is no token", x.read(), -1000100);
    }

    // "THE TAPE has at most 600 bytes", "FULL: none comes"
    private static void feedFull() {
        for (int n = 1; n <= 8; n++) {
            WakingLayers x = new WakingLayers();
            due("blanks", Check.feed(x, " ".repeat(600 - n)), 600 - n);
            if (n < 8) {
                due("one more than there is room", x.feed(0x3b3b3b3b3b3b3b3bL, n + 1), FULL);
                due("8 at once", x.feed(0x3b3b3b3b3b3b3b3bL, 8), FULL);
            }
            due("BAD ahead of FULL", x.feed(0, 9), BAD);
            due("none came", x.count(7), 600 - n);
            due("just 600", x.feed(0x2020202020202020L, n), 600);
            due("601", x.feed(0x3bL, 1), FULL);
            due("BAD ahead of FULL at 600", x.feed(0, 0), BAD);
            due("600 still", x.count(7), 600);
            due("none of those came", x.read(), 0);
        }
    }

    // "The tape, empty then, is read"
    private static void tapeIsEmptyThen() {
        WakingLayers x = new WakingLayers();
        Check.feed(x, " ".repeat(595) + "kind;");
        due("all 600 are read", x.read(), 0);
        due("a kind", x.count(1), 1);
        due("empty then", x.count(7), 0);
        due("nothing is read twice", x.read(), 0);
        due("a kind still", x.count(1), 1);
        CHECK.fault(x, "kind;" + " ".repeat(594) + "k", 599, 1);
        due("empty behind a fault", x.count(7), 0);
        due("room again", Check.feed(x, " ".repeat(600)), 600);
        due("blanks are no fault", x.read(), 0);
        Check.feed(x, "ki");
        Check.feed(x, "nd;");
        due("in pieces", x.read(), 0);
        due("two kinds", x.count(1), 2);
    }

    // "NAMES (letters a to z)"
    private static void names() {
        fault("", "a", 0, 1);
        fault("", "zzz", 0, 1);
        fault("", "kin", 0, 1);
        fault("", "kindd;", 0, 1);
        fault("", "Kind;", 0, 1);
        fault("", "kinD;", 0, 1);
        fault("", "kin`", 0, 1);
        fault("", "kind`;", 4, 1);
        fault("", "kind{;", 4, 1);
        fault("", "kind_", 4, 1);
        fault("", "kind A;", 5, 1);
        fault("kind;", "kind under`0;", 10, 1);
        fault("kind;", "kind underZ0;", 10, 1);
        fault("kind;", "kind undr 0;", 5, 1);
        fault("", "layers ever 1;", 0, 1);
    }

    // a NAME stands where its word is told, all of it and no more
    private static void wholeWords() {
        String[] tellings = {"|kind;", "kind |under 0;", "|thing 0 0;", "|layer span 0;", "layer |span 0;", "layer |thing 0;",
            "layer |ask 0;", "layer |ever 0;", "layer ask 0 |need 0;", "layer ask 0 |bar 0;", "|body plain 0 0 before;",
            "body |plain 0 0 before;", "body plain 0 0 |before;", "body plain 0 0 |behind;", "body plain 0 0 |around;",
            "body plain 0 0 |instead;", "body plain 0 0 before |add 1;", "body plain 0 0 before |mul 1;",
            "body plain 0 0 before |own;", "body plain 0 0 around |proceed;", "body plain 0 0 before |call 0 0;",
            "body plain 0 0 before |wake 0;", "body plain 0 0 before |fail;"};
        for (String telling : tellings) {
            int start = telling.indexOf('|');
            String text = telling.replace("|", "");
            int end = start;
            while (Character.isLetter(text.charAt(end))) {
                end++;
            }
            fine(WORLD, text);
            for (int k = start; k < end; k++) {
                fault(WORLD, text.substring(0, k) + "q" + text.substring(k + 1), start, 1);
            }
            fault(WORLD, text.substring(0, end) + "q" + text.substring(end), start, 1);
            fault(WORLD, text.substring(0, end - 1) + text.substring(end), start, 1);
            fault(WORLD, text.substring(0, start + 1) + text.substring(end), start, 1);
            fault(WORLD, text.substring(0, start) + "q" + text.substring(start), start, 1);
        }
    }

    // "NUMBERS (figures, 3 at most)"; a longer one is none
    private static void numbersOfThreeFigures() {
        fine("kind;", "kind under 0;");
        fine("kind;", "kind under 00;");
        fine("kind;", "kind under 000;");
        fault("kind;", "kind under 0000;", 11, 1);
        fault("kind;", "kind under 1234;", 11, 1);
        fault("kind;", "kind under 99999999999999999999;", 11, 1);
        fault("kind;", "kind under 999;", 11, 2);
        fault("kind;", "kind under 100;", 11, 2);
        fault("kind;", "kind under 00 0;", 14, 1);
        fault("kind;", "kind under 0/;", 12, 1);
        fault("kind;", "kind under 0:;", 12, 1);
        fault("kind;", "kind under /0;", 11, 1);
        fault("kind;", "kind under :0;", 11, 1);
        fault("kind;", "kind under -0;", 11, 1);
        WakingLayers x = CHECK.told("kind;", "thing 0 099;body plain 0 0 before own;");
        due("099 is 99", x.call(0, 0, 0), 99);
        fine("kind;", "thing 0 090;");
        fault("kind;", "thing 0 0099;", 8, 1);
        fault("", " ".repeat(587) + "layer ever 09", 600, 1);
        fine("", " ".repeat(587) + "layer ever 9;");
        fine("", "layer ever 009;");
    }

    // "SIGNS ; < > ="
    private static void signs() {
        fine("", "layer ask 1 0<1;");
        fine("", "layer ask 1 0>1;");
        fine("", "layer ask 1 0=1;");
        for (String sign : new String[] {":", "?", ";", "!", ",", "<<", "=>", "<="}) {
            int place = sign.length() == 2 ? 14 : 13;
            fault("", "layer ask 1 0" + sign + "1;", place, 1);
        }
        fault("", "kind:", 4, 1);
        fault("", "kind=", 4, 1);
        fault("", "kind<", 4, 1);
        fault("", "kind>", 4, 1);
        fault("", "kind,", 4, 1);
        fault("", "<", 0, 1);
        fault("", "=", 0, 1);
        fault("", "?", 0, 1);
    }

    // "bytes 32 and 10 between"
    private static void bytesBetween() {
        fine("", "\n \n kind\n\n ;  \n");
        fine("", "layer\nask\n1\n0\n<\n1\n;");
        fine("", "layer ask 1 0 < 1 ;");
        fine("", "layer ask 1 0<1;");
        fault("", "kin d;", 0, 1);
        fault("", "kind \n;\n ;", 9, 1);
        fault("kind;thing 0 0;", "body plain 0 0 before call 00;", 29, 1);
        fault("kind;thing 0 0;", "body plain 0 0 before call 0 0 0;", 31, 1);
        fault("", "layer ask1 0 <1 0;", 16, 1);
    }

    // what is neither a TOKEN nor 32 nor 10 "is none"
    private static void otherBytes() {
        for (int b = 0; b < 256; b++) {
            boolean between = b == 32 || b == 10;
            char sign = (char) b;
            WakingLayers x = new WakingLayers();
            Check.feed(x, "kind" + sign + ";");
            boolean letter = b >= 'a' && b <= 'z';
            int wanted = between ? 0 : letter ? -1000100 : -1000104;
            if (b == ';') {
                wanted = -1000105;
            }
            due("kind, byte " + b, x.read(), wanted);
            due("kind, byte " + b + ": fault", x.fault(), between ? 0 : 1);
            x = new WakingLayers();
            Check.feed(x, "" + sign);
            due("byte " + b + " alone", x.read(), between ? 0 : -1000100);
        }
    }

    // a text without tellings: "{ ... }"
    private static void emptyTexts() {
        WakingLayers x = new WakingLayers();
        due("no bytes", x.read(), 0);
        x.feed(32, 1);
        due("one blank", x.read(), 0);
        x.feed(10, 1);
        due("one line's end", x.read(), 0);
        due("no fault", x.fault(), 0);
        x.feed(';', 1);
        due("; alone", x.read(), -1000100);
        WakingLayers y = CHECK.told("kind;body plain 0 0 before;");
        due("no bytes: the bodies there are", y.read(), 1);
    }

    // "(the end: how many bytes there are)"
    private static void theEnd() {
        fault("", "kind", 4, 1);
        fault("", "kind ", 5, 1);
        fault("", "kind\n\n\n", 7, 1);
        fault("", " kind", 5, 1);
        fault("kind;", "kind under", 10, 1);
        fault("kind;", "kind under 0", 12, 1);
        fault("kind;", "thing", 5, 1);
        fault("kind;", "thing 0", 7, 1);
        fault("kind;", "thing 0 0  ", 11, 1);
        fault("", "layer", 5, 1);
        fault("", "layer ask", 9, 1);
        fault("", "layer ask 1", 11, 1);
        fault("", "layer ask 1 0", 13, 1);
        fault("", "layer ask 1 0<", 14, 1);
        fault("", "layer ask 1 0<1", 15, 1);
        fault("layer ask 1;", "layer ask 1 need", 16, 1);
        fault("layer ask 1;", "layer ask 1 bar 0", 17, 1);
        fault(WORLD, "body", 4, 1);
        fault(WORLD, "body plain", 10, 1);
        fault(WORLD, "body plain 0", 12, 1);
        fault(WORLD, "body plain 0 0", 14, 1);
        fault(WORLD, "body plain 0 0 before", 21, 1);
        fault(WORLD, "body plain 0 0 before add", 25, 1);
        fault(WORLD, "body plain 0 0 before call 0", 28, 1);
        fault(WORLD, "body plain 0 0 before wake", 26, 1);
        fault(WORLD, "body plain 0 0 before fail", 26, 1);
        fault("", " ".repeat(596) + "kind", 600, 1);
        fault("", "kind" + " ".repeat(596), 600, 1);
    }

    // "KINDS ..., each under an earlier one or none"
    private static void unders() {
        fault("", "kind under 0;", 11, 2);
        fault("kind;", "kind under 1;", 11, 2);
        fine("kind;", "kind under 0;");
        fine("kind;", "kind;kind under 1;");
        fault("kind;", "kind;kind under 2;", 16, 2);
        fault("kind;", "kind under;", 10, 1);
        fault("kind;", "kind under 0 under 0;", 13, 1);
        fault("kind;", "kind 0;", 5, 1);
        fine("kind;kind;kind;kind;kind;kind;kind;", "kind under 6;");
        fault("kind;kind;kind;kind;kind;kind;kind;", "kind under 7;", 11, 2);
    }

    // "THINGS ...: a KIND, a value (0 to 99)"
    private static void things() {
        fault("", "thing 0 0;", 6, 2);
        fault("kind;", "thing 1 0;", 6, 2);
        fault("kind;", "thing;", 5, 1);
        fault("kind;", "thing 0;", 7, 1);
        fault("kind;", "thing 0 0 0;", 10, 1);
        fault("kind;", "thing 0 100;", 8, 2);
        fault("kind;", "thing 0 999;", 8, 2);
        for (int value : new int[] {0, 99}) {
            WakingLayers x = CHECK.told("kind;thing 0 " + value + ";body plain 0 0 before own;");
            due("value " + value, x.call(0, 0, 0), value);
        }
    }

    // "a rank (0 to 9)"
    private static void ranks() {
        for (int rank = 0; rank <= 9; rank += 9) {
            for (String sort : new String[] {"span", "thing", "ask", "ever"}) {
                WakingLayers x = CHECK.told("layer " + sort + " " + rank + ";");
                due("rank", x.layer(0, 1), rank);
            }
        }
        fault("", "layer span 10;", 11, 2);
        fault("", "layer thing 10;", 12, 2);
        fault("", "layer ask 10;", 10, 2);
        fault("", "layer ever 999;", 11, 2);
        fault("", "layer ever;", 10, 1);
        fault("", "layer ever <;", 11, 1);
    }

    // "sort: 'span' | 'thing' | 'ask' | 'ever' (0 to 3)"
    private static void sorts() {
        WakingLayers x = CHECK.told("layer span 0;layer thing 0;layer ask 0;layer ever 0;");
        for (int sort = 0; sort <= 3; sort++) {
            due("sort " + sort, x.layer(sort, 0), sort);
        }
        fault("", "layer;", 5, 1);
        fault("", "layer 1;", 6, 1);
        fault("", "layer kind 1;", 6, 1);
        fault("", "layer spans 1;", 6, 1);
        fault("", "layer spa 1;", 6, 1);
    }

    // "a test: NUMBER (a FACT 0 to 3) ( '<' | '>' | '=' ) NUMBER (0 to 9)"
    private static void tests() {
        fine("", "layer ask 1 0=0;layer ask 1 3=9;");
        fault("", "layer ask 1 4=0;", 12, 2);
        fault("", "layer ask 1 3=10;", 14, 2);
        fault("", "layer ask 1 3<10;", 14, 2);
        fault("", "layer ask 1 3>10;", 14, 2);
        fault("", "layer ask 1 3;", 13, 1);
        fault("", "layer ask 1 3 1;", 14, 1);
        fault("", "layer ask 1 =1;", 12, 1);
        fault("", "layer ask 1 3=;", 14, 1);
        fault("", "layer ask 1 3=need;", 14, 1);
        fault("", "layer ask 1 0=0 0=0;", 16, 1);
        fault("layer ask 1;", "layer ask 1 need 0 0=0;", 19, 1);
        fault("layer ask 1;", "layer ask 1 bar 0 0=0;", 18, 1);
    }

    // "LAYERS (earlier ones) that it needs, that it bars"
    private static void needsAndBars() {
        fault("", "layer ask 1 need 0;", 17, 2);
        fault("", "layer ask 1 bar 0;", 16, 2);
        fine("layer ask 1;", "layer ask 1 need 0;");
        fine("layer ask 1;", "layer ask 1 bar 0;");
        fault("layer ask 1;", "layer ask 1 need 1;", 17, 2);
        fault("layer ask 1;", "layer ask 1 bar 1;", 16, 2);
        fine("", "layer ask 1;layer ask 1 need 0 bar 0 need 0 bar 0;");
        fault("", "layer ask 1;layer ask 1 need 0 bar 1;", 35, 2);
        fault("layer ask 1;", "layer ask 1 need;", 16, 1);
        fault("layer ask 1;", "layer ask 1 bar;", 15, 1);
        fault("layer ask 1;", "layer ask 1 need 0 0;", 19, 1);
        fine("layer ask 1;", "layer ask 1" + " bar 0".repeat(98) + ";");
    }

    // "Test, need, bar stand with 'ask' alone"
    private static void withAskAlone() {
        for (String sort : new String[] {"span", "thing", "ever"}) {
            int place = 9 + sort.length();
            fault("layer ask 1;", "layer " + sort + " 1 0=0;", place, 1);
            fault("layer ask 1;", "layer " + sort + " 1 need 0;", place, 1);
            fault("layer ask 1;", "layer " + sort + " 1 bar 0;", place, 1);
            fault("layer ask 1;", "layer " + sort + " 1 9;", place, 1);
            fine("layer ask 1;", "layer " + sort + " 1;");
        }
        fine("layer ask 1;", "layer ask 1 0=0 need 0 bar 0;");
    }

    // "BODIES ...: of a LAYER, or 'plain', a KIND"
    private static void owners() {
        fine(WORLD, "body 0 0 0 before;body 3 0 0 before;body plain 0 0 before;");
        fault(WORLD, "body 4 0 0 before;", 5, 2);
        fault("kind;", "body 0 0 0 before;", 5, 2);
        fault(WORLD, "body flat 0 0 before;", 5, 1);
        fault(WORLD, "body ; 0 0 before;", 5, 1);
        fault(WORLD, "body plain 1 0 before;", 11, 2);
        fault("layer span 0;", "body 0 0 0 before;", 7, 2);
        fault(WORLD, "body plain plain 0 before;", 11, 1);
    }

    // "a ROUTINE (0 to 3)"
    private static void routines() {
        fine(WORLD, "body plain 0 0 before;body plain 0 3 before;");
        fault(WORLD, "body plain 0 4 before;", 13, 2);
        fault(WORLD, "body plain 0 before;", 13, 1);
    }

    // "way: 'before' | 'behind' | 'around' | 'instead'"
    private static void ways() {
        fine(WORLD, "body plain 0 0 before;body plain 0 0 behind;body plain 0 0 around;body plain 0 0 instead;");
        fault(WORLD, "body plain 0 0 after;", 15, 1);
        fault(WORLD, "body plain 0 0 befor;", 15, 1);
        fault(WORLD, "body plain 0 0 insteads;", 15, 1);
        fault(WORLD, "body plain 0 0;", 14, 1);
        fault(WORLD, "body plain 0 0 0;", 15, 1);
        fault(WORLD, "body plain 0 0 before before;", 22, 1);
    }

    // "up to 6 acts"
    private static void numbersOfActs() {
        for (int n = 0; n <= 6; n++) {
            WakingLayers x = CHECK.told("kind;thing 0 0;body plain 0 0 before" + " add 1".repeat(n) + ";");
            due(n + " acts", x.call(0, 0, 0), n);
        }
        fault(WORLD, "body plain 0 0 before" + " own".repeat(7) + ";", 46, 3);
    }

    // "'add' NUMBER | 'mul' NUMBER (0 to 9)"
    private static void addAndMul() {
        WakingLayers x = CHECK.told("kind;thing 0 0;body plain 0 0 before add 9;body plain 0 1 before add 0;"
            + "body plain 0 2 before mul 9;body plain 0 3 before mul 0;");
        due("add 9", x.call(0, 0, 5), 14);
        due("add 0", x.call(0, 1, 5), 5);
        due("mul 9", x.call(0, 2, 5), 45);
        due("mul 0", x.call(0, 3, 5), 0);
        fault(WORLD, "body plain 0 0 before add 10;", 26, 2);
        fault(WORLD, "body plain 0 0 before mul 10;", 26, 2);
        fault(WORLD, "body plain 0 0 before add;", 25, 1);
        fault(WORLD, "body plain 0 0 before mul own;", 26, 1);
        fault(WORLD, "body plain 0 0 before add 1 1;", 28, 1);
    }

    // "'call' NUMBER NUMBER (a THING, a ROUTINE)"
    private static void callActs() {
        fine(WORLD, "body plain 0 0 before call 0 0 call 0 3;");
        fault(WORLD, "body plain 0 0 before call 1 0;", 27, 2);
        fault("kind;", "body plain 0 0 before call 0 0;", 27, 2);
        fault(WORLD, "body plain 0 0 before call 0 4;", 29, 2);
        fault(WORLD, "body plain 0 0 before call;", 26, 1);
        fault(WORLD, "body plain 0 0 before call 0;", 28, 1);
        fault(WORLD, "body plain 0 0 before call 0 own;", 29, 1);
    }

    // "'wake' NUMBER (a LAYER, not 'ask' nor 'ever')"
    private static void wakeActs() {
        fine(WORLD, "body plain 0 0 before wake 0 wake 1;");
        fault(WORLD, "body plain 0 0 before wake 2;", 27, 2);
        fault(WORLD, "body plain 0 0 before wake 3;", 27, 2);
        fault(WORLD, "body plain 0 0 before wake 4;", 27, 2);
        fault("kind;", "body plain 0 0 before wake 0;", 27, 2);
        fault(WORLD, "body plain 0 0 before wake;", 26, 1);
        fault(WORLD, "body plain 0 0 before wake span;", 27, 1);
    }

    // "'own' | ... | 'fail'": they take no NUMBER
    private static void ownAndFail() {
        fine(WORLD, "body plain 0 0 before own fail own fail;");
        fault(WORLD, "body plain 0 0 before own 0;", 26, 1);
        fault(WORLD, "body plain 0 0 before fail 0;", 27, 1);
        fault(WORLD, "body plain 0 0 around proceed 0;", 30, 1);
        fault(WORLD, "body plain 0 0 before sub 1;", 22, 1);
        fault(WORLD, "body plain 0 0 before 1;", 22, 1);
        fault(WORLD, "body plain 0 0 before <;", 22, 1);
    }

    // "'proceed' stands in 'around' alone"
    private static void proceed() {
        fine(WORLD, "body plain 0 0 around proceed proceed proceed proceed proceed proceed;");
        fault(WORLD, "body plain 0 0 before proceed;", 22, 1);
        fault(WORLD, "body plain 0 0 behind proceed;", 22, 1);
        fault(WORLD, "body plain 0 0 instead proceed;", 23, 1);
        fault(WORLD, "body plain 0 0 instead own proceed;", 27, 1);
    }

    // "KINDS 0 .. 7 (8 at most)", "3 a KIND ... more than there is room for (its first word)"
    private static void roomForKinds() {
        WakingLayers x = CHECK.told("kind;".repeat(7));
        CHECK.fault(x, "kind;kind under 7;", 5, 3);
        due("7 kinds", x.count(1), 7);
        Check.feed(x, "kind;");
        due("the 8th", x.read(), 0);
        due("8 kinds", x.count(1), 8);
        CHECK.fault(x, " kind", 1, 3);
        CHECK.fault(x, "kind under 9;", 0, 3);
        fine("kind;".repeat(8), "thing 7 0;");
        fault("", "kind;".repeat(9), 40, 3);
    }

    // "THINGS 0 .. 7 (8)", "3 a ... THING ... more than there is room for (its first word)"
    private static void roomForThings() {
        WakingLayers x = CHECK.told("kind;" + "thing 0 9;".repeat(7));
        CHECK.fault(x, "thing 0 0;thing 0 0;", 10, 3);
        due("7 things", x.count(2), 7);
        Check.feed(x, "thing 0 0;body plain 0 0 before call 7 0;");
        due("the 8th", x.read(), 1);
        due("8 things", x.count(2), 8);
        CHECK.fault(x, "thing 9 100;", 0, 3);
        CHECK.fault(x, "body plain 0 0 before call 8 0;", 27, 2);
    }

    // "LAYERS 0 .. 7 (8)", "3 a ... LAYER ... more than there is room for (its first word)"
    private static void roomForLayers() {
        WakingLayers x = CHECK.told("layer ask 0;".repeat(7));
        CHECK.fault(x, "layer ask 0;layer ask 0;", 12, 3);
        due("7 layers", x.count(3), 7);
        Check.feed(x, "layer ask 0 need 6 bar 6;");
        due("the 8th", x.read(), 0);
        due("8 layers", x.count(3), 8);
        CHECK.fault(x, "layer ask 10;", 0, 3);
        CHECK.fault(x, "layer", 0, 3);
    }

    // "BODIES (24 at most)", "3 a ... BODY more than there is room for (its first word)"
    private static void roomForBodies() {
        WakingLayers x = CHECK.told("kind;", "body plain 0 0 before;".repeat(23));
        CHECK.fault(x, "body plain 0 0 before;\nbody plain 0 0 before;", 23, 3);
        due("23 bodies", x.count(4), 23);
        Check.feed(x, "body plain 0 0 before;");
        due("the 24th", x.read(), 24);
        CHECK.fault(x, "body flat 9 9;", 0, 3);
        due("24 bodies", x.count(4), 24);
        due("a text without bodies still", feedAndRead(x, "kind;thing 1 0;layer ever 0;"), 24);
    }

    private static int feedAndRead(WakingLayers x, String text) {
        Check.feed(x, text);
        return x.read();
    }

    // "3 ... the 7th act (its word)"
    private static void roomForActs() {
        String six = "body plain 0 0 around add 1 mul 1 own proceed call 0 0 wake 0";
        fine(WORLD, six + ";");
        for (String act : new String[] {"add 1", "mul 1", "own", "proceed", "call 0 0", "wake 0", "fail", "add", "wake 9"}) {
            fault(WORLD, six + " " + act + ";", six.length() + 1, 3);
        }
    }

    // "(what the text tells ahead counts for what it tells behind)"
    private static void aheadCountsForBehind() {
        fine("", "kind;thing 0 0;layer span 0;layer ask 0 need 0;body 1 0 0 before call 0 0 wake 0;");
        fault("", "thing 0 0;kind;", 6, 2);
        fault("kind;", "body 0 0 0 before;layer span 0;", 5, 2);
        fault("kind;", "body plain 0 0 before call 0 0;thing 0 0;", 27, 2);
        fault("kind;", "body plain 0 0 before wake 0;layer span 0;", 27, 2);
        fault("", "layer ask 0 need 1;layer ask 0;", 17, 2);
        fault("", "kind;".repeat(8) + "kind;", 40, 3);
        fault("kind;", "layer ask 0;body plain 0 0 before wake 0;", 39, 2);
    }

    // "All come behind what there is, when all is read"
    private static void behindWhatThereIs() {
        WakingLayers x = CHECK.told("kind;thing 0 1;layer span 3;body plain 0 0 before own;");
        Check.feed(x, "kind;thing 1 2;layer ever 4;body plain 1 0 before own own;");
        due("two bodies", x.read(), 2);
        due("the first thing", x.call(0, 0, 0), 1);
        due("the second thing", x.call(1, 0, 0), 4);
        due("the first layer", x.layer(0, 1), 3);
        due("the second layer", x.layer(1, 1), 4);
        due("row of the first", x.row(0, 0, 0), 0);
        due("row of the second", x.row(1, 0, 0), 1);
    }

    // "FAULTS, the first TOKEN that has one (its first byte)"
    private static void firstTokenThatHasOne() {
        fault("kind;", "thing 1 100;", 6, 2);
        fault("kind;", "thing 0 100 ?", 8, 2);
        fault("kind;", "thing ? 100;", 6, 1);
        fault("", "layer ask 10 need 9;", 10, 2);
        fault("kind;".repeat(8), "kind under 9 9", 0, 3);
        fault("", "kind;kind;;kind under 9;", 10, 1);
        fault("kind;", "  thing   1   100;", 10, 2);
        fault(WORLD, "body plain 0 4 after;", 13, 2);
    }

    // "of one TOKEN the least"
    private static void leastOfOneToken() {
        String six = "body plain 0 0 before" + " own".repeat(6);
        fault(WORLD, six + " proceed;", 46, 1);
        fault(WORLD, six + " owns;", 46, 1);
        fault(WORLD, six + " 1;", 46, 1);
        fault(WORLD, six + " ?", 46, 1);
        fault(WORLD, six, 45, 1);
        fault("layer ask 1;", "layer span 1 9;", 13, 1);
        fault("kind;", "thing 0 1000;", 8, 1);
        fault("kind;".repeat(8), "kinds;", 0, 1);
    }

    // "-1000100 less the place of a FAULT: nothing comes"
    private static void nothingComes() {
        WakingLayers x = CHECK.told(WORLD + "body plain 0 0 before add 1;");
        CHECK.fault(x, "kind under 0;thing 1 9;layer ever 9;body 4 0 0 before add 9;body plain 0 0 before fail;;", 87, 1);
        due("kinds", x.count(1), 1);
        due("things", x.count(2), 1);
        due("layers", x.count(3), 4);
        due("bodies", x.count(4), 1);
        due("awake", x.count(6), 1);
        CHECK.row(x, 0, 0, 0);
        due("call", x.call(0, 0, 0), 1);
        due("no such thing", x.call(1, 0, 0), BAD);
        due("no such layer", x.layer(4, 0), BAD);
        due("then another text", feedAndRead(x, "layer ask 2;kind;body 4 1 1 behind;"), 2);
        due("its sort", x.layer(4, 0), 2);
        due("its rank", x.layer(4, 1), 2);
        due("nothing of the other's acts", x.count(4), 2);
    }

    // the same: of what a FAULT refused nothing is left for what is told behind it
    private static void nothingIsLeft() {
        WakingLayers x = CHECK.told("kind;thing 0 7;layer span 1;layer ask 1;");
        CHECK.fault(x, "layer ask 9 0=9 need 0 bar 1;body 2 0 0 instead fail own own;?", 61, 1);
        due("read", feedAndRead(x, "layer ask 2;body 2 0 0 before add 1;"), 1);
        due("its sort", x.layer(2, 0), 2);
        due("its rank", x.layer(2, 1), 2);
        due("it needs none", x.layer(2, 2), 0);
        due("it bars none", x.layer(2, 3), 0);
        due("it has no test", x.point(), 6);
        due("its body has one act", x.call(0, 0, 0), 1);
        CHECK.fault(x, "kind under 0;thing 1 9;?", 23, 1);
        due("read more", feedAndRead(x, "kind;thing 1 3;body plain 1 0 before own;"), 2);
        due("its kind is under none", x.call(1, 0, 0), 3);
        CHECK.row(x, 1, 0, 1);
    }

    // "The number of the latest FAULT; 0 before one."
    private static void latestFault() {
        WakingLayers x = new WakingLayers();
        due("before one", x.fault(), 0);
        feedAndRead(x, "kind;");
        due("a text without one", x.fault(), 0);
        feedAndRead(x, "thing 9 0;");
        due("2", x.fault(), 2);
        feedAndRead(x, "kind;");
        due("it stays", x.fault(), 2);
        x.read();
        due("it stays behind an empty tape", x.fault(), 2);
        feedAndRead(x, "?");
        due("1", x.fault(), 1);
        feedAndRead(x, "kind;".repeat(7));
        due("3", x.fault(), 3);
        due("asked again", x.fault(), 3);
    }

    // layer: "BAD"
    private static void layerIsRefused() {
        WakingLayers x = CHECK.told("layer span 1;layer ever 2;");
        for (int layer : new int[] {-1, 2, 7, 8, MIN, MAX}) {
            for (int what = 0; what <= 5; what++) {
                due("no layer " + layer, x.layer(layer, what), BAD);
            }
        }
        for (int what : new int[] {-1, 6, MIN, MAX}) {
            due("no such " + what, x.layer(0, what), BAD);
        }
        due("both", x.layer(2, 6), BAD);
    }

    // layer: "2 the set it needs (bits), 3 the set it bars, 4 ... (for some THING: 1, 0), 5 how many WAKINGS are open"
    private static void layerSets() {
        WakingLayers x = CHECK.told("kind;" + "thing 0 0;".repeat(8) + "layer thing 0;" + "layer ask 0;".repeat(6)
            + "layer ask 9 need 0 need 1 need 2 need 3 need 4 need 5 need 6 bar 6 bar 0 bar 6;");
        due("all it needs", x.layer(7, 2), 127);
        due("what it bars", x.layer(7, 3), 65);
        due("none", x.layer(6, 2), 0);
        due("none barred", x.layer(6, 3), 0);
        for (int k = 0; k < 16; k++) {
            due("open " + k, x.layer(0, 5), k);
            due("awake " + k, x.layer(0, 4), k == 0 ? 0 : 1);
            x.wake(0, k % 8);
        }
        due("open 16", x.layer(0, 5), 16);
        due("none of another", x.layer(1, 5), 0);
        due("NONE is no thing", x.wake(0, NONE), BAD);
    }
}
