/**
 * The boundary cases of rows, calls, what ran, together and same: promises 15 to 19. Ahead of each
 * test stands the sentence of the document that it would find broken.
 */
public final class CallBoundariesTest {
    private static final int NONE = -1000000, BAD = -1000001, FAILS = -1000004;
    private static final int MIN = Integer.MIN_VALUE, MAX = Integer.MAX_VALUE;
    private static final Check CHECK = new Check();

    public static void main(String[] args) {
        rowIsRefused();
        rowIndexes();
        rowOfAllBodies();
        ranksAheadOfWakings();
        latestAheadOfEver();
        latestOpenForThisThing();
        eightOfOneRank();
        kindsFromTheThingsOwnUp();
        rowEndsBehindInstead();
        rowStaysAsItWas();
        callIsRefused();
        callNumbers();
        emptyRow();
        behindTheLastBody();
        moduloOfAdd();
        moduloOfMul();
        moduloOfOwn();
        proceedNeverAndOften();
        behindOfAFailure();
        failuresGoUp();
        sixtyBodies();
        sixtyBodiesInARowAndCalls();
        sixDeep();
        spentDoesNoActsOfBehind();
        spentIsForOneCall();
        failedCallsOfBehindAreNotSpent();
        ranOfTheLatestCall();
        ranOfTheFirstForty();
        togetherIsRefused();
        togetherIndexes();
        togetherValues();
        togetherWithTheWakings();
        togetherLeavesAll();
        sameIsRefused();
        sameValues();
        sameNumbers();
        sameOfFailures();
        sameLosesThoseThatNeed();
        sameOfOneNeverFound();
        sameLeavesAll();
        CHECK.finish();
    }

    private static void due(String what, long got, long want) {
        CHECK.due(what, got, want);
    }

    // row: "BAD: THING, ROUTINE, i below -1"
    private static void rowIsRefused() {
        WakingLayers x = CHECK.told("kind;thing 0 0;thing 0 0;body plain 0 0 before;");
        for (int thing : new int[] {-1, 2, 8, MIN, MAX}) {
            due("no thing " + thing, x.row(thing, 0, -1), BAD);
        }
        for (int routine : new int[] {-1, 4, MIN, MAX}) {
            due("no routine " + routine, x.row(0, routine, -1), BAD);
        }
        for (int i : new int[] {-2, -3, NONE, MIN}) {
            due("i " + i, x.row(0, 0, i), BAD);
        }
        due("thing 1, routine 3", x.row(1, 3, -1), 0);
        due("BAD ahead of NONE", x.row(2, 0, 9), BAD);
    }

    // row: "how many bodies (i = -1); the number of body i (as told); NONE: not so many"
    private static void rowIndexes() {
        WakingLayers x = CHECK.told("kind;thing 0 0;body plain 0 1 before;body plain 0 0 before;body plain 0 0 before;");
        due("how many", x.row(0, 0, -1), 2);
        due("the first", x.row(0, 0, 0), 1);
        due("the last", x.row(0, 0, 1), 2);
        due("behind the last", x.row(0, 0, 2), NONE);
        due("i 24", x.row(0, 0, 24), NONE);
        due("i most", x.row(0, 0, MAX), NONE);
        due("of none: how many", x.row(0, 2, -1), 0);
        due("of none: the first", x.row(0, 2, 0), NONE);
    }

    // the longest ROW there can be: all 24 BODIES
    private static void rowOfAllBodies() {
        WakingLayers x = CHECK.told("kind;thing 0 0;", "body plain 0 3 before add 1;".repeat(20), "body plain 0 3 before add 1;".repeat(4));
        due("24", x.row(0, 3, -1), 24);
        for (int i = 0; i < 24; i++) {
            due("body " + i, x.row(0, 3, i), i);
        }
        due("no 25th", x.row(0, 3, 24), NONE);
        due("call", x.call(0, 3, 0), 24);
        due("ran", x.ran(-1), 24);
    }

    // "by rank, the greater first": the latest of 16 WAKINGS does not come before a greater rank
    private static void ranksAheadOfWakings() {
        WakingLayers x = CHECK.told("kind;thing 0 0;layer span 0;layer span 1;layer ever 2;layer ask 3;layer thing 9;",
            "body 0 0 0 before;body 1 0 0 before;body 2 0 0 before;body 3 0 0 before;body 4 0 0 before;");
        x.wake(4, 0);
        x.wake(1, NONE);
        for (int k = 0; k < 14; k++) {
            x.wake(0, NONE);
        }
        x.point();
        CHECK.row(x, 0, 0, 4, 3, 2, 1, 0);
        WakingLayers y = CHECK.told("kind;thing 0 0;layer span 8;" + "layer ask 0 0=1;".repeat(6) + "layer ever 9;",
            "body 0 0 0 before;body 7 0 0 before;");
        for (int k = 0; k < 16; k++) {
            y.wake(0, NONE);
            CHECK.row(y, 0, 0, 1, 0);
        }
    }

    // "of one rank 'span' and 'thing' ones by their latest open WAKING ..., behind them 'ever' and 'ask' ones by numbers"
    private static void latestAheadOfEver() {
        WakingLayers x = CHECK.told("kind;thing 0 0;layer ever 4;layer ask 4;layer span 4;layer thing 4;layer ever 4;layer ask 4;",
            "body 0 0 0 before;body 1 0 0 before;body 2 0 0 before;body 3 0 0 before;body 4 0 0 before;body 5 0 0 before;");
        x.point();
        CHECK.row(x, 0, 0, 0, 1, 4, 5);
        x.wake(2, NONE);
        CHECK.row(x, 0, 0, 2, 0, 1, 4, 5);
        x.wake(3, 0);
        CHECK.row(x, 0, 0, 3, 2, 0, 1, 4, 5);
        x.wake(2, NONE);
        CHECK.row(x, 0, 0, 2, 3, 0, 1, 4, 5);
        x.sleep(2);
        CHECK.row(x, 0, 0, 3, 2, 0, 1, 4, 5);
        x.sleep(2);
        CHECK.row(x, 0, 0, 3, 0, 1, 4, 5);
    }

    // "their latest open WAKING (for this THING)"
    private static void latestOpenForThisThing() {
        WakingLayers x = CHECK.told("kind;thing 0 0;thing 0 0;thing 0 0;layer thing 4;layer thing 4;body 0 0 0 before;body 1 0 0 before;");
        x.wake(0, 0);
        x.wake(1, 1);
        x.wake(1, 0);
        x.wake(0, 1);
        CHECK.row(x, 0, 0, 1, 0);
        CHECK.row(x, 1, 0, 0, 1);
        CHECK.row(x, 2, 0);
        x.sleep(1);
        CHECK.row(x, 0, 0, 0);
        CHECK.row(x, 1, 0, 0, 1);
    }

    // eight LAYERS of one rank by numbers
    private static void eightOfOneRank() {
        for (int rank = 0; rank <= 9; rank += 9) {
            StringBuilder layers = new StringBuilder("kind;thing 0 0;");
            StringBuilder bodies = new StringBuilder();
            for (int layer = 7; layer >= 0; layer--) {
                layers.append(layer % 2 == 0 ? "layer ever " : "layer ask ").append(rank).append(';');
                bodies.append("body ").append(layer).append(" 0 0 before;");
            }
            WakingLayers x = CHECK.told(layers.toString(), bodies.toString());
            x.point();
            CHECK.row(x, 0, 0, 7, 6, 5, 4, 3, 2, 1, 0);
        }
        WakingLayers y = CHECK.told("kind;thing 0 0;" + "layer span 0;".repeat(8),
            "body 0 0 0 before;body 1 0 0 before;body 2 0 0 before;body 3 0 0 before;"
            + "body 4 0 0 before;body 5 0 0 before;body 6 0 0 before;body 7 0 0 before;");
        for (int layer = 0; layer <= 7; layer++) {
            y.wake(layer, NONE);
        }
        CHECK.row(y, 0, 0, 7, 6, 5, 4, 3, 2, 1, 0);
    }

    // "by KINDS from the THING's own up, of one KIND in the order they were told"
    private static void kindsFromTheThingsOwnUp() {
        WakingLayers x = CHECK.told("kind;kind under 0;kind under 1;kind under 2;kind under 3;kind under 4;kind under 5;kind under 6;"
            + "thing 7 0;thing 0 0;thing 4 0;",
            "body plain 0 0 before;body plain 1 0 before;body plain 2 0 before;body plain 3 0 before;body plain 4 0 before;"
            + "body plain 5 0 before;body plain 6 0 before;body plain 7 0 before;body plain 7 0 before;body plain 0 0 before;");
        CHECK.row(x, 0, 0, 7, 8, 6, 5, 4, 3, 2, 1, 0, 9);
        CHECK.row(x, 1, 0, 0, 9);
        CHECK.row(x, 2, 0, 4, 3, 2, 1, 0, 9);
    }

    // "THE ROW ends behind the first 'instead'"
    private static void rowEndsBehindInstead() {
        WakingLayers x = CHECK.told("kind;kind under 0;thing 1 0;layer ever 5;layer ever 4;",
            "body 0 1 0 instead;body 0 1 0 before;body 0 0 0 before;body 1 1 0 before;body plain 1 0 before;"
            + "body 0 1 1 before;body 0 0 1 instead;body 1 1 1 before;body plain 1 1 before;"
            + "body plain 1 2 before;body plain 1 2 instead;body plain 1 2 instead;body plain 0 2 before;"
            + "body 1 1 2 around;body plain 0 3 instead;");
        CHECK.row(x, 0, 0, 0);
        CHECK.row(x, 0, 1, 5, 6);
        CHECK.row(x, 0, 2, 13, 9, 10);
        CHECK.row(x, 0, 3, 14);
    }

    // "It stays as it was when the call began"
    private static void rowStaysAsItWas() {
        WakingLayers x = CHECK.told("kind;thing 0 0;layer ever 9;layer span 5;",
            "body 0 0 0 around wake 1 proceed proceed;body 1 0 0 before add 5;body plain 0 0 before add 1;"
            + "body plain 0 1 around wake 1 call 0 2 proceed;body 1 0 2 before add 7;body plain 0 1 before add 1;body 1 0 1 before fail;");
        due("a layer woken comes not into it", x.call(0, 0, 0), 2);
        CHECK.ran(x, 0, 2, 2);
        due("another call between", x.call(0, 1, 0), 8);
        CHECK.ran(x, 3, 4, 5);
        x.wake(1, NONE);
        due("the next call has it", x.call(0, 0, 0), 12);
    }

    // call: "BAD", "A call with a number (0 to 1000002)"
    private static void callIsRefused() {
        WakingLayers x = CHECK.told("kind;thing 0 0;body plain 0 0 before;");
        x.call(0, 0, 0);
        for (int thing : new int[] {-1, 1, 8, MIN, MAX}) {
            due("no thing " + thing, x.call(thing, 0, 0), BAD);
        }
        for (int routine : new int[] {-1, 4, MIN, MAX}) {
            due("no routine " + routine, x.call(0, routine, 0), BAD);
        }
        for (int number : new int[] {-1, 1000003, MIN, MAX, NONE}) {
            due("no number " + number, x.call(0, 0, number), BAD);
        }
        CHECK.ran(x, 0);
    }

    private static void callNumbers() {
        WakingLayers x = CHECK.told("kind;thing 0 0;body plain 0 0 before;");
        for (int number : new int[] {0, 1, 1000001, 1000002}) {
            due("number " + number, x.call(0, 0, number), number);
        }
    }

    // "Behind the last body of THE ROW the number is given as it comes there", if it has none, too
    private static void emptyRow() {
        WakingLayers x = CHECK.told("kind;thing 0 9;body plain 0 0 before call 0 3 add 1;");
        for (int number : new int[] {0, 5, 1000002}) {
            due("no body: " + number, x.call(0, 1, number), number);
            CHECK.ran(x);
        }
        due("a call act of none", x.call(0, 0, 5), 6);
        CHECK.ran(x, 0);
    }

    private static void behindTheLastBody() {
        WakingLayers x = CHECK.told("kind;thing 0 9;body plain 0 0 before add 1;body plain 0 1 behind mul 2;"
            + "body plain 0 2 around add 1 proceed mul 2;body plain 0 3 instead;");
        due("before", x.call(0, 0, 5), 6);
        due("behind", x.call(0, 1, 5), 10);
        due("around", x.call(0, 2, 5), 12);
        due("instead", x.call(0, 3, 5), 5);
    }

    // "add, mul: what comes is taken modulo 1000003"
    private static void moduloOfAdd() {
        WakingLayers x = CHECK.told("kind;thing 0 0;body plain 0 0 before add 9;body plain 0 1 before add 9 add 9;");
        due("to 1000002", x.call(0, 0, 999993), 1000002);
        due("to 1000003", x.call(0, 0, 999994), 0);
        due("beyond", x.call(0, 0, 1000002), 8);
        due("twice", x.call(0, 1, 1000002), 17);
    }

    private static void moduloOfMul() {
        WakingLayers x = CHECK.told("kind;thing 0 0;body plain 0 0 before mul 9;body plain 0 1 before mul 9 mul 9 mul 9 mul 9 mul 9 mul 9;"
            + "body plain 0 2 before mul 0;body plain 0 3 before mul 1;");
        due("below", x.call(0, 0, 111111), 999999);
        due("beyond", x.call(0, 0, 111112), 5);
        due("the greatest", x.call(0, 0, 1000002), 999994);
        due("six times", x.call(0, 1, 1000002), 1000003 - 531441);
        due("mul 0", x.call(0, 2, 1000002), 0);
        due("mul 1", x.call(0, 3, 1000002), 1000002);
    }

    // "own: the THING's value is added, likewise"
    private static void moduloOfOwn() {
        WakingLayers x = CHECK.told("kind;thing 0 99;thing 0 0;body plain 0 0 before own;");
        due("to 1000002", x.call(0, 0, 999903), 1000002);
        due("to 1000003", x.call(0, 0, 999904), 0);
        due("beyond", x.call(0, 0, 1000002), 98);
        due("value 0", x.call(1, 0, 1000002), 1000002);
    }

    // "around: its acts; 'proceed' runs the next body with the number as it is then"
    private static void proceedNeverAndOften() {
        WakingLayers x = CHECK.told("kind;thing 0 0;", "body plain 0 0 around add 1;body plain 0 0 instead fail;"
            + "body plain 0 1 around proceed proceed proceed proceed proceed proceed;body plain 0 1 instead mul 2;");
        due("never", x.call(0, 0, 1), 2);
        CHECK.ran(x, 0);
        due("six times", x.call(0, 1, 1), 64);
        CHECK.ran(x, 2, 3, 3, 3, 3, 3, 3);
    }

    // "behind: ... if the next body FAILS, its acts are done with the number it had, and it FAILS all the same"
    private static void behindOfAFailure() {
        WakingLayers x = CHECK.told("kind;thing 0 0;thing 0 0;layer span 0;",
            "body plain 0 0 behind wake 0 call 1 1;body plain 0 0 before add 9 fail;body 0 0 1 before;"
            + "body plain 0 2 behind call 1 1 call 1 1;body plain 0 2 behind fail call 1 1;body plain 0 2 instead fail;body plain 0 1 behind;");
        due("its acts are done", x.call(0, 0, 1), FAILS);
        CHECK.ran(x, 0, 1, 2, 6);
        due("two of them, of which one fails at once", x.call(0, 2, 1), FAILS);
        CHECK.ran(x, 3, 4, 5, 6, 6);
        due("closed", x.count(5), 0);
    }

    // "A FAILURE goes up through all"
    private static void failuresGoUp() {
        WakingLayers x = CHECK.told("kind;thing 0 0;",
            "body plain 0 0 before call 0 1 add 1;body plain 0 0 before;body plain 0 1 around call 0 2 call 0 3;"
            + "body plain 0 2 instead add 1 fail add 1;body plain 0 3 before;");
        due("through calls", x.call(0, 0, 0), FAILS);
        CHECK.ran(x, 0, 2, 3);
        due("at once", x.call(0, 2, 0), FAILS);
        CHECK.ran(x, 3);
        due("no failure", x.call(0, 3, 0), 0);
    }

    // "SPENT: the 61st body that would begin in one outermost call": 5 rows of 11, a body around them, and more
    private static void sixtyBodies() {
        for (int more = 3; more <= 6; more++) {
            WakingLayers x = CHECK.told("kind;thing 0 0;thing 0 0;", "body plain 0 1 before add 1;".repeat(11),
                "body plain 0 0 around call 0 1 call 0 1 call 0 1 call 0 1 call 0 1 proceed;" + "body plain 0 0 before;".repeat(more));
            due("bodies: " + (56 + more), x.call(1, 0, 0), 56 + more <= 60 ? 55 : FAILS);
            due("begun", x.ran(-1), Math.min(60, 56 + more));
            due("the first", x.ran(0), 11);
            due("the 40th", x.ran(39), 5);
            due("the 41st", x.ran(40), NONE);
            due("anew", x.call(0, 1, 0), 11);
            due("begun anew", x.ran(-1), 11);
        }
    }

    private static void sixtyBodiesInARowAndCalls() {
        WakingLayers x = CHECK.told("kind;thing 0 0;", "body plain 0 0 around proceed proceed;".repeat(5) + "body plain 0 0 instead add 1;",
            "body plain 0 1 before call 0 2;" + "body plain 0 2 around proceed proceed;".repeat(4) + "body plain 0 2 before add 1;"
            + "body plain 0 2 instead add 1;");
        due("63", x.call(0, 0, 0), FAILS);
        due("60 of 63", x.ran(-1), 60);
        due("48", x.call(0, 1, 0), 32);
        due("48 begun", x.ran(-1), 48);
    }

    // "or a call in calls 6 deep (the outermost is the first): it FAILS"
    private static void sixDeep() {
        String chain = "kind;kind;kind;kind;kind;kind;kind;thing 0 0;thing 1 0;thing 2 0;thing 3 0;thing 4 0;thing 5 0;thing 6 0;";
        StringBuilder bodies = new StringBuilder();
        for (int k = 0; k < 6; k++) {
            bodies.append("body plain ").append(k).append(" 0 before call ").append(k + 1).append(" 0;");
        }
        WakingLayers x = CHECK.told(chain, bodies.toString());
        due("the seventh, of an empty row", x.call(0, 0, 3), FAILS);
        CHECK.ran(x, 0, 1, 2, 3, 4, 5);
        due("the sixth, of an empty row", x.call(1, 0, 3), 3);
        CHECK.ran(x, 1, 2, 3, 4, 5);
        WakingLayers y = CHECK.told("kind;thing 0 0;body plain 0 0 before call 0 0;");
        due("without an end", y.call(0, 0, 0), FAILS);
        due("six", y.ran(-1), 6);
        WakingLayers z = CHECK.told("kind;thing 0 0;body plain 0 0 before call 0 1 call 0 1 call 0 1 call 0 1 call 0 1 call 0 1;"
            + "body plain 0 1 before call 0 2;body plain 0 2 before add 1;");
        due("one behind another is no deeper", z.call(0, 0, 0), 6);
    }

    // "and from then on no acts of behind are done"
    private static void spentDoesNoActsOfBehind() {
        WakingLayers x = CHECK.told("kind;thing 0 0;thing 0 0;body plain 0 0 behind call 1 1;body plain 0 0 before call 0 0;body plain 0 1 before;");
        due("too deep", x.call(0, 0, 0), FAILS);
        CHECK.ran(x, 0, 1, 0, 1, 0, 1, 0, 1, 0, 1, 0, 1);
        WakingLayers y = CHECK.told("kind;thing 0 0;", "body plain 0 1 before;".repeat(11),
            "body plain 0 0 behind call 0 2;body plain 0 0 around call 0 1 call 0 1 call 0 1 call 0 1 call 0 1 call 0 3;"
            + "body plain 0 2 before;body plain 0 3 behind call 0 2;body plain 0 3 before;body plain 0 3 before;body plain 0 3 before;");
        due("the 61st", y.call(0, 0, 0), FAILS);
        due("60 and no act of behind", y.ran(-1), 60);
        due("without the 61st", y.call(0, 3, 7), 7);
        CHECK.ran(y, 14, 15, 16, 17, 13);
    }

    // SPENT is of "one outermost call": the next begins anew
    private static void spentIsForOneCall() {
        WakingLayers x = CHECK.told("kind;thing 0 0;body plain 0 0 before call 0 0;body plain 0 1 behind call 0 2;body plain 0 1 before fail;"
            + "body plain 0 2 before;");
        for (int k = 0; k < 3; k++) {
            due("spent", x.call(0, 0, 0), FAILS);
            due("then a failure", x.call(0, 1, 0), FAILS);
            CHECK.ran(x, 1, 2, 3);
        }
    }

    // a FAILURE that is not SPENT, in acts of behind that are done because of another
    private static void failedCallsOfBehindAreNotSpent() {
        WakingLayers x = CHECK.told("kind;thing 0 0;layer ever 0;",
            "body plain 0 0 behind call 0 3;body plain 0 0 behind call 0 1;body plain 0 0 before fail;"
            + "body plain 0 1 behind call 0 3;body plain 0 1 before fail;body plain 0 3 before;");
        due("fails", x.call(0, 0, 0), FAILS);
        CHECK.ran(x, 0, 1, 2, 3, 4, 5, 5);
    }

    // ran: "Of the latest call(): how many bodies were begun (i = -1); ...; NONE"
    private static void ranOfTheLatestCall() {
        WakingLayers x = CHECK.told("kind;thing 0 0;body plain 0 0 before;body plain 0 0 before;body plain 0 1 before;");
        due("before any", x.ran(-1), 0);
        due("before any: the first", x.ran(0), NONE);
        x.call(0, 0, 0);
        CHECK.ran(x, 0, 1);
        for (int i : new int[] {2, 3, 39, 40, 60, MAX, -2, MIN, NONE}) {
            due("no " + i, x.ran(i), NONE);
        }
        x.call(0, 1, 0);
        CHECK.ran(x, 2);
        x.call(0, 2, 0);
        CHECK.ran(x);
    }

    // ran: "the number of the i-th begun (the first 40)"
    private static void ranOfTheFirstForty() {
        for (int bodies = 39; bodies <= 41; bodies++) {
            WakingLayers x = CHECK.told("kind;thing 0 0;", "body plain 0 1 before;".repeat(9),
                "body plain 0 0 around call 0 1 call 0 1 call 0 1 call 0 1 proceed;" + "body plain 0 0 before;".repeat(bodies - 37));
            x.call(0, 0, 0);
            due("begun", x.ran(-1), bodies);
            due("the first", x.ran(0), 9);
            due("the 38th", x.ran(37), 10);
            due("the 39th", x.ran(38), 11);
            due("the 40th", x.ran(39), bodies >= 40 ? 12 : NONE);
            due("the 41st", x.ran(40), NONE);
        }
    }

    // together: "values 0 to m (1 to 3)", "BAD: m, i below -1"
    private static void togetherIsRefused() {
        WakingLayers x = CHECK.told("layer ask 0;");
        for (int m : new int[] {0, 4, -1, MIN, MAX}) {
            due("no m " + m, x.together(m, -1), BAD);
            due("no m " + m + ", the first", x.together(m, 0), BAD);
        }
        for (int i : new int[] {-2, MIN, NONE}) {
            due("no i " + i, x.together(1, i), BAD);
        }
    }

    // together: "how many sets (i = -1); the i-th; NONE: not so many"
    private static void togetherIndexes() {
        WakingLayers x = new WakingLayers();
        for (int m = 1; m <= 3; m++) {
            CHECK.sets(x, m, 0);
        }
        due("most", x.together(1, MAX), NONE);
        due("256", x.together(1, 256), NONE);
        WakingLayers y = CHECK.told("layer ask 0 0=1;layer ask 0 1=1;layer ask 0 2=1;layer ask 0 3=1;"
            + "layer ask 0 0>1;layer ask 0 1>1;layer ask 0 2>1;layer ask 0 3>1;");
        due("16", y.together(1, -1), 16);
        for (int i = 0; i < 16; i++) {
            due("set " + i, y.together(1, i), i);
        }
        due("no 17th", y.together(1, 16), NONE);
        due("81", y.together(3, -1), 81);
        due("the last", y.together(3, 80), 240);
        due("no 82nd", y.together(3, 81), NONE);
        WakingLayers z = CHECK.told("layer ask 0;".repeat(8));
        CHECK.sets(z, 3, 255);
    }

    // together: each of FACTS 0 .. 3 takes each value 0 to m
    private static void togetherValues() {
        for (int fact = 0; fact <= 3; fact++) {
            WakingLayers x = CHECK.told("layer ask 0 F=0;layer ask 0 F=1;layer ask 0 F=2;layer ask 0 F=3;layer ask 0 F>3;".replace("F", "" + fact));
            CHECK.sets(x, 1, 1, 2);
            CHECK.sets(x, 2, 1, 2, 4);
            CHECK.sets(x, 3, 1, 2, 4, 8);
        }
    }

    // together: "with the WAKINGS there are"
    private static void togetherWithTheWakings() {
        WakingLayers x = CHECK.told("kind;thing 0 0;layer span 0;layer thing 0;layer ask 0 0=1 need 0;layer ask 0 need 1;layer ask 0 need 2 bar 3;");
        CHECK.sets(x, 1, 0);
        x.wake(1, 0);
        CHECK.sets(x, 1, 8);
        x.wake(0, NONE);
        CHECK.sets(x, 1, 8, 20);
        x.sleep(1);
        CHECK.sets(x, 1, 0, 20);
    }

    // "Both leave FACTS, what is FOUND, and ran() as they are"
    private static void togetherLeavesAll() {
        WakingLayers x = CHECK.told("kind;thing 0 0;layer ask 0 0=9;layer ask 0 0=1;body 0 0 0 before add 1;");
        x.fact(0, 9);
        due("found", x.point(), 1);
        x.fact(0, 1);
        due("call", x.call(0, 0, 0), 1);
        x.ask(0, 1);
        due("together", x.together(3, -1), 2);
        CHECK.ran(x, 0);
        CHECK.trace(x, 21, 20);
        due("what is found", x.count(6), 1);
        due("what is found: it", x.layer(0, 4), 1);
        due("call again", x.call(0, 0, 0), 1);
        due("what is told", x.fact(0, 1), 1);
        due("point", x.point(), 2);
    }

    // same: "BAD: LAYER (not 'ask'), THING, ROUTINE, number, m"
    private static void sameIsRefused() {
        WakingLayers x = CHECK.told("kind;thing 0 0;layer ask 0;layer span 0;layer thing 0;layer ever 0;");
        due("same", x.same(0, 0, 3, 1000002, 3), 1);
        for (int layer : new int[] {1, 2, 3, 4, 8, -1, MIN, MAX}) {
            due("no layer " + layer, x.same(layer, 0, 0, 0, 1), BAD);
        }
        for (int thing : new int[] {1, 8, -1, MIN, MAX}) {
            due("no thing " + thing, x.same(0, thing, 0, 0, 1), BAD);
        }
        for (int routine : new int[] {4, -1, MIN, MAX}) {
            due("no routine " + routine, x.same(0, 0, routine, 0, 1), BAD);
        }
        for (int number : new int[] {1000003, -1, MIN, MAX}) {
            due("no number " + number, x.same(0, 0, 0, number, 1), BAD);
        }
        for (int m : new int[] {0, 4, -1, MIN, MAX}) {
            due("no m " + m, x.same(0, 0, 0, 0, m), BAD);
        }
    }

    // same: "for all those values"
    private static void sameValues() {
        for (int fact = 0; fact <= 3; fact++) {
            for (int v = 0; v <= 4; v++) {
                WakingLayers x = CHECK.told("kind;thing 0 0;layer ask 0 " + fact + "=" + v + ";body 0 0 0 before add 1;");
                for (int m = 1; m <= 3; m++) {
                    due("fact " + fact + "=" + v + ", m " + m, x.same(0, 0, 0, 0, m), v <= m ? 0 : 1);
                }
            }
        }
    }

    // same: "a call with a number gives ... the same"
    private static void sameNumbers() {
        WakingLayers x = CHECK.told("kind;thing 0 0;layer ask 0;body 0 0 0 before mul 2;body 0 0 1 before mul 0;body plain 0 2 before add 1;");
        due("0 twice", x.same(0, 0, 0, 0, 1), 1);
        due("1 twice", x.same(0, 0, 0, 1, 1), 0);
        due("the greatest twice", x.same(0, 0, 0, 1000002, 1), 0);
        due("none of 0", x.same(0, 0, 1, 0, 1), 1);
        due("none of 1", x.same(0, 0, 1, 1, 1), 0);
        due("no body of it", x.same(0, 0, 2, 1, 1), 1);
        due("an empty row", x.same(0, 0, 3, 1, 1), 1);
    }

    // same: "(or FAILS) the same"
    private static void sameOfFailures() {
        WakingLayers x = CHECK.told("kind;thing 0 0;layer ask 0;body 0 0 0 before fail;body 0 0 1 before add 1;body plain 0 1 before fail;"
            + "body 0 0 2 instead;body plain 0 2 before fail;");
        due("it fails with it alone", x.same(0, 0, 0, 0, 1), 0);
        due("it fails both ways", x.same(0, 0, 1, 0, 1), 1);
        due("it fails without it alone", x.same(0, 0, 2, 0, 1), 0);
    }

    // same: "with that LAYER FOUND no more (and, over and over, those that need one that is not AWAKE)"
    private static void sameLosesThoseThatNeed() {
        WakingLayers x = CHECK.told("kind;thing 0 0;layer ask 0;layer ask 0 need 0;layer ask 0 need 1;layer ask 0;body 2 0 0 before add 1;");
        due("the one that has it", x.same(2, 0, 0, 0, 1), 0);
        due("one that it needs", x.same(1, 0, 0, 0, 1), 0);
        due("one that is needed by that", x.same(0, 0, 0, 0, 1), 0);
        due("another", x.same(3, 0, 0, 0, 1), 1);
        WakingLayers y = CHECK.told("kind;thing 0 0;layer ask 0;layer ask 0 bar 0;body 0 0 0 before add 1;");
        due("what it bars comes not back", y.same(1, 0, 0, 0, 1), 1);
    }

    private static void sameOfOneNeverFound() {
        WakingLayers x = CHECK.told("kind;thing 0 0;layer span 0;layer ask 0 need 0;layer ask 0 0>3;layer ask 0;layer ask 0 bar 3;",
            "body 1 0 0 before add 1;body 2 0 0 before add 1;body 3 0 0 before add 1;");
        due("needs one asleep", x.same(1, 0, 0, 0, 3), 1);
        due("no such value", x.same(2, 0, 0, 0, 3), 1);
        due("barred", x.same(3, 0, 0, 0, 3), 1);
        x.wake(0, NONE);
        due("awake now", x.same(1, 0, 0, 0, 3), 0);
    }

    // "Both leave FACTS, what is FOUND, and ran() as they are"
    private static void sameLeavesAll() {
        WakingLayers x = CHECK.told("kind;thing 0 0;layer ask 0 0=9;layer ask 0 0=1;layer span 0;",
            "body 0 0 0 before add 1;body 1 0 0 before wake 2 add 2;body plain 0 1 before wake 2 wake 2 fail;");
        x.fact(0, 9);
        due("found", x.point(), 1);
        x.fact(0, 1);
        due("call", x.call(0, 0, 0), 1);
        x.ask(0, 1);
        due("same", x.same(1, 0, 0, 0, 3), 0);
        due("same of failures", x.same(1, 0, 1, 0, 3), 1);
        due("same of one not found there", x.same(0, 0, 0, 0, 3), 1);
        CHECK.ran(x, 0);
        CHECK.trace(x, 21, 20);
        due("what is found", x.count(6), 1);
        due("what is found: it", x.layer(0, 4), 1);
        due("what is open", x.count(5), 0);
        due("what is told", x.fact(0, 1), 1);
        due("point", x.point(), 2);
    }
}
