/**
 * The boundary cases of sheets: promises 1 to 5, 11 and 25. Ahead of each test stands the sentence
 * of the document that it would find broken.
 */
public final class SheetBoundariesTest {
    private static final int BAD = -1000001;
    private static final int NULL = -1000011, PLACE = -1000012, KIND = -1000013, SIZE = -1000014, STORE = -1000015;
    private static final int MIN = Integer.MIN_VALUE, MAX = Integer.MAX_VALUE;
    private static final int[] NO_SHEETS = {-1, 8, MIN, MAX};
    private static final Check CHECK = new Check();

    public static void main(String[] args) {
        nothingIsTold();
        missingAtFirst();
        noSuchSheet();
        lanes();
        numbersOfItems();
        sizeBelowNone();
        itemsAreZeroAtFirst();
        inPlaceOfWhatIsThere();
        lowestBitsOfBytes();
        lowestBitsOfShorts();
        lowestBitsOfInts();
        setPlaces();
        setOrder();
        copyAll();
        copyNone();
        copyAsTheyWereAhead();
        copyPlaces();
        copyFarPlaces();
        copyStore();
        copyOrder();
        drop();
        factsNumbers();
        factsPlaces();
        factsItems();
        factsOrder();
        statusAtFirst();
        statusOfEachFinding();
        statusStaysBehindBad();
        statusStaysBehindOthers();
        CHECK.finish();
    }

    private static void due(String what, long got, long want) {
        CHECK.due(what, got, want);
    }

    // "Nothing is told."
    private static void nothingIsTold() {
        WakingLayers x = new WakingLayers();
        for (int what = 0; what <= 7; what++) {
            due("new: count " + what, x.count(what), 0);
        }
        for (int fact = 0; fact <= 3; fact++) {
            due("new: fact " + fact, x.fact(fact, 0), 0);
        }
        due("new: layer", x.layer(0, 0), BAD);
        due("new: wake", x.wake(0, 0), BAD);
        due("new: sleep", x.sleep(0), BAD);
        due("new: row", x.row(0, 0, -1), BAD);
        due("new: call", x.call(0, 0, 0), BAD);
        due("new: same", x.same(0, 0, 0, 0, 1), BAD);
        due("new: kind", x.kind(0), BAD);
        due("new: as", x.as(0, 0), BAD);
        due("new: ask", x.ask(0, 0), BAD);
        due("new: point", x.point(), 0);
        due("new: read", x.read(), 0);
        due("new: status", x.status(), 0);
    }

    // "SHEETS 0 .. 7 are missing (at first)"
    private static void missingAtFirst() {
        for (int sheet = 0; sheet <= 7; sheet++) {
            WakingLayers x = new WakingLayers();
            due("missing: set", x.set(sheet, 0, 0), NULL);
            due("missing: drop", x.drop(sheet), NULL);
            due("missing: facts", x.facts(sheet, 0, 1), NULL);
            due("missing: copy onto itself", x.copy(sheet, 0, sheet, 0, 0), NULL);
            due("there: sheet", x.sheet(sheet, 0, 1), 1);
            due("there: set", x.set(sheet, 0, 1), 1);
            due("there: one", x.count(0), 1);
        }
    }

    // "BAD (...; there is no such thing)", of SHEETS "0 .. 7"
    private static void noSuchSheet() {
        for (int sheet : NO_SHEETS) {
            WakingLayers x = new WakingLayers();
            x.sheet(0, 0, 4);
            due("no such: sheet " + sheet, x.sheet(sheet, 0, 1), BAD);
            due("no such: set " + sheet, x.set(sheet, 0, 0), BAD);
            due("no such: copy a " + sheet, x.copy(sheet, 0, 0, 0, 0), BAD);
            due("no such: copy b " + sheet, x.copy(0, 0, sheet, 0, 0), BAD);
            due("no such: drop " + sheet, x.drop(sheet), BAD);
            due("no such: facts " + sheet, x.facts(sheet, 0, 1), BAD);
        }
    }

    // "a LANE (0 bytes, 1 shorts, 2 ints)", "BAD: SHEET, LANE"
    private static void lanes() {
        WakingLayers x = new WakingLayers();
        for (int lane = 0; lane <= 2; lane++) {
            due("lane " + lane, x.sheet(lane, lane, 3), 3);
        }
        for (int lane : new int[] {-1, 3, MIN, MAX}) {
            due("no lane " + lane, x.sheet(3, lane, 3), BAD);
        }
        due("none laid", x.count(0), 3);
    }

    // "0 to 40 ITEMS", "BAD: ... n above 40"
    private static void numbersOfItems() {
        WakingLayers x = new WakingLayers();
        due("no items", x.sheet(0, 0, 0), 0);
        due("no items: there it is", x.count(0), 1);
        due("no items: no place 0", x.set(0, 0, 1), PLACE);
        due("one item", x.sheet(1, 1, 1), 1);
        due("one item: place 0", x.set(1, 0, 1), 1);
        due("one item: no place 1", x.set(1, 1, 1), PLACE);
        due("40 items", x.sheet(2, 2, 40), 40);
        due("40 items: place 39", x.set(2, 39, 1), 1);
        due("40 items: no place 40", x.set(2, 40, 1), PLACE);
        due("41 items", x.sheet(3, 0, 41), BAD);
        due("most items", x.sheet(3, 0, MAX), BAD);
        due("41 items: missing still", x.drop(3), NULL);
    }

    // "4 SIZE (fewer than none)"
    private static void sizeBelowNone() {
        WakingLayers x = new WakingLayers();
        due("-1 items", x.sheet(0, 0, -1), SIZE);
        due("-1 items: status", x.status(), 4);
        due("least items", x.sheet(0, 0, MIN), SIZE);
        due("-1 items: missing still", x.drop(0), NULL);
        due("BAD SHEET ahead of SIZE", x.sheet(8, 0, -1), BAD);
        due("BAD LANE ahead of SIZE", x.sheet(0, 3, -1), BAD);
    }

    // "ITEMS, 0 at first"
    private static void itemsAreZeroAtFirst() {
        for (int lane = 0; lane <= 2; lane++) {
            WakingLayers x = new WakingLayers();
            x.sheet(5, lane, 40);
            for (int i = 0; i < 40; i++) {
                due("0 at first " + i, Check.item(x, 5, i), 0);
                x.set(5, i, 7);
            }
            x.sheet(5, lane, 40);
            for (int i = 0; i < 40; i++) {
                due("0 again " + i, Check.item(x, 5, i), 0);
            }
            x.set(5, 39, 7);
            x.drop(5);
            x.sheet(5, lane, 40);
            due("0 behind drop", Check.item(x, 5, 39), 0);
        }
    }

    // "A SHEET of a LANE with n ITEMS, in place of what is there"
    private static void inPlaceOfWhatIsThere() {
        WakingLayers x = new WakingLayers();
        x.sheet(0, 2, 5);
        due("shorter", x.sheet(0, 2, 2), 2);
        due("shorter: no place 2", x.set(0, 2, 0), PLACE);
        due("longer", x.sheet(0, 2, 9), 9);
        due("longer: place 8", x.set(0, 8, 300), 300);
        due("of another lane", x.sheet(0, 0, 9), 9);
        due("of another lane: 300", x.set(0, 8, 300), 44);
        due("none", x.sheet(0, 0, 0), 0);
        due("still one sheet", x.count(0), 1);
        due("with none", x.drop(0), 0);
    }

    // "ITEM i becomes v, its lowest bits, as many as the LANE has: what it is then"
    private static void lowestBitsOfBytes() {
        int[][] pairs = {{127, 127}, {128, -128}, {255, -1}, {256, 0}, {257, 1}, {-1, -1}, {-128, -128}, {-129, 127},
            {32767, -1}, {32768, 0}, {MAX, -1}, {MIN, 0}};
        puts(0, pairs);
        WakingLayers x = new WakingLayers();
        x.sheet(0, 0, 1);
        x.set(0, 0, 256 + 9);
        due("byte 265 is kept as 9", Check.item(x, 0, 0), 9);
    }

    private static void lowestBitsOfShorts() {
        int[][] pairs = {{127, 127}, {128, 128}, {32767, 32767}, {32768, -32768}, {65535, -1}, {65536, 0}, {65537, 1},
            {-1, -1}, {-32768, -32768}, {-32769, 32767}, {MAX, -1}, {MIN, 0}};
        puts(1, pairs);
        WakingLayers x = new WakingLayers();
        x.sheet(0, 1, 1);
        x.set(0, 0, -65536 + 9);
        due("short -65527 is kept as 9", Check.item(x, 0, 0), 9);
    }

    private static void lowestBitsOfInts() {
        int[][] pairs = {{127, 127}, {128, 128}, {32768, 32768}, {65536, 65536}, {-32769, -32769}, {MAX, MAX}, {MIN, MIN}};
        puts(2, pairs);
    }

    private static void puts(int lane, int[][] pairs) {
        WakingLayers x = new WakingLayers();
        x.sheet(7, lane, 40);
        for (int[] pair : pairs) {
            due("lane " + lane + ": " + pair[0], x.set(7, 39, pair[0]), pair[1]);
        }
    }

    // set: "PLACE", "2 PLACE (no such place of a SHEET)"
    private static void setPlaces() {
        WakingLayers x = new WakingLayers();
        x.sheet(0, 0, 3);
        due("place 0", x.set(0, 0, 1), 1);
        due("place 2", x.set(0, 2, 1), 1);
        for (int i : new int[] {-1, 3, 39, 40, MIN, MAX}) {
            due("no place " + i, x.set(0, i, 1), PLACE);
            due("no place: status", x.status(), 2);
        }
    }

    // set: "BAD: SHEET; NULL; PLACE", the first of these that fits
    private static void setOrder() {
        WakingLayers x = new WakingLayers();
        due("BAD ahead of NULL, PLACE", x.set(8, -1, 0), BAD);
        due("NULL ahead of PLACE", x.set(0, -1, 0), NULL);
        x.sheet(0, 0, 0);
        due("then PLACE", x.set(0, -1, 0), PLACE);
    }

    // copy: "n ITEMS of a from i on come to b from j on ...: n"
    private static void copyAll() {
        WakingLayers x = new WakingLayers();
        x.sheet(0, 0, 40);
        x.sheet(1, 0, 40);
        for (int i = 0; i < 40; i++) {
            x.set(0, i, i % 10);
        }
        due("all 40", x.copy(0, 0, 1, 0, 40), 40);
        for (int i = 0; i < 40; i++) {
            due("all 40: " + i, Check.item(x, 1, i), i % 10);
        }
        due("the last to the first", x.copy(0, 39, 1, 0, 1), 1);
        due("the last to the first: came", Check.item(x, 1, 0), 9);
        due("the last to the first: none else", Check.item(x, 1, 1), 1);
        due("the first to the last", x.copy(0, 0, 1, 39, 1), 1);
        due("the first to the last: came", Check.item(x, 1, 39), 0);
        due("the first to the last: none else", Check.item(x, 1, 38), 8);
    }

    // copy of none: a place just behind the last is no PLACE beyond an end
    private static void copyNone() {
        WakingLayers x = new WakingLayers();
        x.sheet(0, 0, 3);
        x.sheet(1, 0, 0);
        x.set(0, 0, 5);
        due("none", x.copy(0, 0, 0, 1, 0), 0);
        due("none: nothing came", Check.item(x, 0, 1), 0);
        due("none, behind the last of a", x.copy(0, 3, 0, 0, 0), 0);
        due("none, behind the last of b", x.copy(0, 0, 0, 3, 0), 0);
        due("none, of and to an empty one", x.copy(1, 0, 1, 0, 0), 0);
        due("none, beyond a's end", x.copy(0, 4, 0, 0, 0), PLACE);
        due("none, beyond b's end", x.copy(0, 0, 0, 4, 0), PLACE);
        due("one, of an empty one", x.copy(1, 0, 0, 0, 1), PLACE);
        due("one, to an empty one", x.copy(0, 0, 1, 0, 1), PLACE);
    }

    // copy: "as they were ahead"
    private static void copyAsTheyWereAhead() {
        for (int lane = 0; lane <= 2; lane++) {
            due("up", copied(lane, 0, 1, 4), 112346);
            due("down", copied(lane, 1, 0, 4), 234556);
            due("onto the same places", copied(lane, 0, 0, 6), 123456);
            due("far up", copied(lane, 0, 2, 4), 121234);
            due("far down", copied(lane, 2, 0, 4), 345656);
        }
    }

    /** The items of a sheet of 1 2 3 4 5 6 behind a copy onto itself, as the figures of a number. */
    private static int copied(int lane, int i, int j, int n) {
        WakingLayers x = new WakingLayers();
        x.sheet(0, lane, 6);
        for (int k = 0; k < 6; k++) {
            x.set(0, k, k + 1);
        }
        due("onto itself", x.copy(0, i, 0, j, n), n);
        int figures = 0;
        for (int k = 0; k < 6; k++) {
            figures = 10 * figures + Check.item(x, 0, k);
        }
        return figures;
    }

    // copy: "PLACE (i, j, n below 0, or beyond an end)"
    private static void copyPlaces() {
        WakingLayers x = new WakingLayers();
        x.sheet(0, 1, 3);
        x.sheet(1, 1, 5);
        due("to a's end", x.copy(0, 1, 1, 0, 2), 2);
        due("one beyond a's end", x.copy(0, 2, 1, 0, 2), PLACE);
        due("to b's end", x.copy(1, 0, 0, 1, 2), 2);
        due("one beyond b's end", x.copy(1, 0, 0, 2, 2), PLACE);
        due("i below", x.copy(0, -1, 1, 0, 1), PLACE);
        due("j below", x.copy(0, 0, 1, -1, 1), PLACE);
        due("n below", x.copy(0, 1, 1, 1, -1), PLACE);
        due("i below, of none", x.copy(0, -1, 1, 0, 0), PLACE);
        due("j below, of none", x.copy(0, 0, 1, -1, 0), PLACE);
        due("status", x.status(), 2);
    }

    // the same, where i + n or j + n would wrap around
    private static void copyFarPlaces() {
        WakingLayers x = new WakingLayers();
        x.sheet(0, 1, 3);
        x.sheet(1, 1, 5);
        due("n far", x.copy(0, 1, 1, 1, MAX), PLACE);
        due("i and n far", x.copy(0, MAX, 1, 0, MAX), PLACE);
        due("i far, n 1", x.copy(0, MAX, 1, 0, 1), PLACE);
        due("j far, n 1", x.copy(0, 0, 1, MAX, 1), PLACE);
        due("i least", x.copy(0, MIN, 1, 0, 1), PLACE);
        due("j least", x.copy(0, 0, 1, MIN, 1), PLACE);
        due("n least", x.copy(0, 0, 1, 0, MIN), PLACE);
        due("i 1, n least", x.copy(0, 1, 1, 1, MIN), PLACE);
        due("all least", x.copy(0, MIN, 1, MIN, MIN), PLACE);
        due("i least, n most", x.copy(0, MIN, 1, MIN, MAX), PLACE);
    }

    // "5 STORE (SHEETS of two LANES)"
    private static void copyStore() {
        WakingLayers x = new WakingLayers();
        for (int lane = 0; lane <= 2; lane++) {
            x.sheet(lane, lane, 2);
            x.sheet(3 + lane, lane, 2);
        }
        for (int a = 0; a <= 2; a++) {
            for (int b = 0; b <= 2; b++) {
                due("lanes " + a + ", " + b, x.copy(a, 0, 3 + b, 0, 2), a == b ? 2 : STORE);
                due("lanes: status", x.status(), a == b ? 0 : 5);
                due("none of lanes " + a + ", " + b, x.copy(a, 0, 3 + b, 0, 0), a == b ? 0 : STORE);
            }
        }
        x.drop(0);
        x.sheet(0, 2, 2);
        due("the lane that it has now", x.copy(0, 0, 5, 0, 2), 2);
    }

    // copy: "BAD: SHEETS; NULL; STORE; PLACE", the first of these that fits
    private static void copyOrder() {
        WakingLayers x = new WakingLayers();
        x.sheet(0, 0, 2);
        x.sheet(1, 1, 2);
        due("BAD a ahead of NULL b", x.copy(8, 0, 7, 0, 0), BAD);
        due("BAD b ahead of NULL a", x.copy(7, 0, 8, 0, 0), BAD);
        due("BAD ahead of PLACE", x.copy(0, -1, 8, 0, 0), BAD);
        due("NULL a ahead of PLACE", x.copy(7, -1, 0, 0, 0), NULL);
        due("NULL b ahead of PLACE", x.copy(0, 3, 7, 0, 0), NULL);
        due("NULL both", x.copy(6, 0, 7, 0, 0), NULL);
        x.sheet(6, 2, 1);
        x.drop(6);
        due("NULL of one dropped ahead of STORE", x.copy(0, 0, 6, 0, 0), NULL);
        due("NULL of one dropped, as a", x.copy(6, 0, 0, 0, 0), NULL);
        due("STORE ahead of PLACE i", x.copy(0, -1, 1, 0, 1), STORE);
        due("STORE ahead of PLACE j", x.copy(0, 0, 1, 3, 1), STORE);
        due("STORE ahead of PLACE n", x.copy(0, 0, 1, 0, -1), STORE);
    }

    // "A SHEET is missing from now on: how many ITEMS it had. BAD; NULL."
    private static void drop() {
        for (int n : new int[] {0, 1, 40}) {
            WakingLayers x = new WakingLayers();
            x.sheet(7, 1, n);
            x.sheet(0, 1, 2);
            due("drop " + n, x.drop(7), n);
            due("drop: again", x.drop(7), NULL);
            due("drop: set", x.set(7, 0, 0), NULL);
            due("drop: facts", x.facts(7, 0, 1), NULL);
            due("drop: copy", x.copy(0, 0, 7, 0, 0), NULL);
            due("drop: the other stays", x.count(0), 1);
            due("drop: anew", x.sheet(7, 0, 3), 3);
            due("drop: anew, of its own lane", x.set(7, 2, 300), 44);
        }
    }

    // "n FACTS (1 to 4) from 0 on are ITEMS of a SHEET from i on: n"
    private static void factsNumbers() {
        for (int n = 1; n <= 4; n++) {
            WakingLayers x = new WakingLayers();
            x.sheet(0, 2, 5);
            for (int k = 0; k < 5; k++) {
                x.set(0, k, k + 1);
            }
            for (int k = 0; k < 4; k++) {
                x.fact(k, 9);
            }
            due("facts " + n, x.facts(0, 1, n), n);
            for (int k = 0; k < 4; k++) {
                due("facts " + n + ": " + k, x.fact(k, 0), k < n ? k + 2 : 9);
            }
            for (int none : new int[] {0, 5, -1, MIN, MAX}) {
                due("no facts " + none, x.facts(0, 0, none), BAD);
            }
        }
    }

    // facts: "PLACE"
    private static void factsPlaces() {
        WakingLayers x = new WakingLayers();
        x.sheet(0, 0, 5);
        x.sheet(1, 0, 0);
        due("to the end", x.facts(0, 1, 4), 4);
        due("the last", x.facts(0, 4, 1), 1);
        due("one beyond", x.facts(0, 2, 4), PLACE);
        due("behind the last", x.facts(0, 5, 1), PLACE);
        due("below", x.facts(0, -1, 1), PLACE);
        due("far", x.facts(0, MAX, 4), PLACE);
        due("least", x.facts(0, MIN, 4), PLACE);
        due("of an empty one", x.facts(1, 0, 1), PLACE);
        due("status", x.status(), 2);
    }

    // facts: "then BAD: an ITEM", of FACTS "(0 to 9; ...)"
    private static void factsItems() {
        WakingLayers x = new WakingLayers();
        x.sheet(0, 2, 4);
        for (int v : new int[] {0, 9}) {
            x.set(0, 3, v);
            due("an item " + v, x.facts(0, 0, 4), 4);
            due("an item: told", x.fact(3, 0), v);
        }
        x.set(0, 0, 1);
        for (int v : new int[] {-1, 10, MIN, MAX}) {
            x.set(0, 3, v);
            x.fact(0, 8);
            due("no fact " + v, x.facts(0, 0, 4), BAD);
            due("no fact: none is told", x.fact(0, 8), 8);
            due("no fact, but not asked for", x.facts(0, 0, 3), 3);
        }
        x.sheet(1, 0, 1);
        x.set(1, 0, 200);
        due("byte 200 is below 0", x.facts(1, 0, 1), BAD);
    }

    // facts: "BAD: SHEET, n; NULL; PLACE; then BAD: an ITEM"
    private static void factsOrder() {
        WakingLayers x = new WakingLayers();
        x.sheet(0, 0, 2);
        x.set(0, 1, 10);
        due("n ahead of NULL", x.facts(7, 0, 5), BAD);
        due("n ahead of PLACE", x.facts(0, 3, 0), BAD);
        due("NULL ahead of PLACE", x.facts(7, -1, 1), NULL);
        due("PLACE ahead of an item", x.facts(0, 1, 2), PLACE);
        due("then an item", x.facts(0, 0, 2), BAD);
        due("of which status() stays", x.status(), 2);
    }

    // status: "0: it had none, or there was none"
    private static void statusAtFirst() {
        WakingLayers x = new WakingLayers();
        due("there was none", x.status(), 0);
        x.set(8, 0, 0);
        due("BAD alone", x.status(), 0);
        x.drop(0);
        due("a finding", x.status(), 1);
        due("asked again", x.status(), 1);
        x.sheet(0, 0, 0);
        due("it had none: sheet", x.status(), 0);
    }

    // "the number of its FINDING", of each call that has them, and none behind each
    private static void statusOfEachFinding() {
        WakingLayers x = CHECK.told("layer ever 2;");
        x.sheet(0, 0, 1);
        x.sheet(1, 1, 1);
        status(x, "sheet", x.sheet(2, 0, -1), SIZE, x.status(), x.sheet(2, 0, 1), 1);
        status(x, "set NULL", x.set(7, 0, 0), NULL, x.status(), x.set(0, 0, 5), 5);
        status(x, "set PLACE", x.set(0, 1, 0), PLACE, x.status(), x.set(0, 0, 0), 0);
        status(x, "copy NULL", x.copy(0, 0, 7, 0, 0), NULL, x.status(), x.copy(0, 0, 0, 0, 1), 1);
        status(x, "copy STORE", x.copy(0, 0, 1, 0, 0), STORE, x.status(), x.copy(0, 0, 2, 0, 1), 1);
        status(x, "copy PLACE", x.copy(0, 0, 2, 0, 2), PLACE, x.status(), x.copy(0, 0, 2, 0, 0), 0);
        status(x, "drop", x.drop(7), NULL, x.status(), x.drop(2), 1);
        status(x, "facts NULL", x.facts(2, 0, 1), NULL, x.status(), x.facts(0, 0, 1), 1);
        status(x, "facts PLACE", x.facts(0, 1, 1), PLACE, x.status(), x.facts(1, 0, 1), 1);
        status(x, "as", x.as(0, 1), KIND, x.status(), x.as(0, 5), 2);
    }

    private static void status(WakingLayers x, String what, int found, int finding, int status, int given, int answer) {
        due(what + " is found", found, finding);
        due(what + " is found: status", status, -1000010 - finding);
        due(what + " is given", given, answer);
        due(what + ": status behind it", x.status(), 0);
    }

    // status: "the latest call ... that was not BAD, STATE, FULL"
    private static void statusStaysBehindBad() {
        int[] findings = {NULL, PLACE, KIND, SIZE, STORE};
        for (int number = 1; number <= 5; number++) {
            WakingLayers x = CHECK.told("layer ever 2;");
            x.sheet(0, 0, 1);
            x.sheet(1, 1, 1);
            x.set(0, 0, 99);
            int[] answers = {x.drop(7), x.set(0, 1, 0), x.as(0, 1), x.sheet(2, 0, -1), x.copy(0, 0, 1, 0, 0)};
            due("finding " + number, answers[number - 1], findings[number - 1]);
            findAgain(x, number);
            due("status " + number, x.status(), number);
            due("BAD sheet", x.sheet(0, 0, 41), BAD);
            due("BAD set", x.set(8, 0, 0), BAD);
            due("BAD copy", x.copy(0, 0, 8, 0, 0), BAD);
            due("BAD drop", x.drop(8), BAD);
            due("BAD facts", x.facts(0, 0, 5), BAD);
            due("BAD item", x.facts(0, 0, 1), BAD);
            due("BAD as", x.as(0, 6), BAD);
            due("BAD layer of as", x.as(1, 0), BAD);
            due("status " + number + " stays", x.status(), number);
        }
    }

    private static void findAgain(WakingLayers x, int number) {
        switch (number) {
            case 1 -> x.drop(7);
            case 2 -> x.set(0, 1, 0);
            case 3 -> x.as(0, 1);
            case 4 -> x.sheet(2, 0, -1);
            default -> x.copy(0, 0, 1, 0, 0);
        }
    }

    // status: "a call with a SHEET, or as()": no other call is told of
    private static void statusStaysBehindOthers() {
        WakingLayers x = CHECK.told("kind;thing 0 0;layer span 2;layer ask 1;");
        x.drop(7);
        x.feed(32, 1);
        x.feed(32, 0);
        x.read();
        x.fault();
        x.layer(0, 0);
        x.layer(9, 0);
        x.fact(0, 0);
        x.fact(9, 0);
        x.point();
        x.sleep(0);
        x.wake(0, -1000000);
        x.sleep(0);
        x.row(0, 0, -1);
        x.call(0, 0, 0);
        x.ran(-1);
        x.together(1, -1);
        x.same(1, 0, 0, 0, 1);
        x.kind(0);
        x.ask(0, 0);
        x.trace(0);
        x.count(0);
        due("status stays", x.status(), 1);
        x.as(0, 1);
        x.wake(9, 0);
        x.call(9, 0, 0);
        due("status stays 0", x.status(), 0);
    }
}
