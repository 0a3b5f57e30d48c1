/**
 * The boundary cases of facts, points and wakings: promises 10 and 12 to 14. Ahead of each test
 * stands the sentence of the document that it would find broken.
 */
public final class WakingBoundariesTest {
    private static final int NONE = -1000000, BAD = -1000001, STATE = -1000002, FULL = -1000003, FAILS = -1000004;
    private static final int MIN = Integer.MIN_VALUE, MAX = Integer.MAX_VALUE;
    private static final Check CHECK = new Check();

    public static void main(String[] args) {
        factNumbers();
        factValues();
        whatItWasToldAs();
        holdFromTheNextPointOn();
        atFirstAllAreZero();
        testsAtTheirEdges();
        wakeLayers();
        wakeThings();
        wakeFull();
        sleepIsRefused();
        sleepClosesTheLatestOfIt();
        actsBeyondSixteen();
        actsForTheCallsThing();
        closedWhenABodyGives();
        closedWhenABodyFails();
        closedWhenTheNextFails();
        closedWhenSpent();
        closedWhenAWakeActFails();
        foundAtFirstNone();
        everIsAwakeAtOnce();
        closingLosesThoseThatNeed();
        closingKeepsTheOthers();
        closingByActsKeepsTheFound();
        justThoseWhoseTestHolds();
        needsByNumbers();
        barredAllAtOnce();
        barsOverAndOver();
        pointWithoutLayers();
        CHECK.finish();
    }

    private static void due(String what, long got, long want) {
        CHECK.due(what, got, want);
    }

    // "FACTS 0 .. 3", "BAD"
    private static void factNumbers() {
        WakingLayers x = new WakingLayers();
        for (int fact = 0; fact <= 3; fact++) {
            due("fact " + fact, x.fact(fact, 1 + fact), 0);
        }
        for (int fact : new int[] {-1, 4, MIN, MAX}) {
            due("no fact " + fact, x.fact(fact, 0), BAD);
        }
        for (int fact = 0; fact <= 3; fact++) {
            due("fact " + fact + " stays", x.fact(fact, 0), 1 + fact);
        }
    }

    // "(0 to 9; 0 at first)", "BAD"
    private static void factValues() {
        WakingLayers x = new WakingLayers();
        for (int v = 0; v <= 9; v++) {
            due("value " + v, x.fact(2, v), v == 0 ? 0 : v - 1);
        }
        for (int v : new int[] {-1, 10, MIN, MAX}) {
            due("no value " + v, x.fact(2, v), BAD);
        }
        due("9 stays", x.fact(2, 0), 9);
    }

    // fact: "A FACT is told: what it was told as", be there a POINT between or not
    private static void whatItWasToldAs() {
        WakingLayers x = new WakingLayers();
        due("at first", x.fact(0, 5), 0);
        due("without a point", x.fact(0, 6), 5);
        x.point();
        due("behind a point", x.fact(0, 6), 6);
        due("as the same", x.fact(0, 6), 6);
        x.together(3, -1);
        due("behind together", x.fact(0, 6), 6);
    }

    // "they HOLD from the next POINT on"
    private static void holdFromTheNextPointOn() {
        WakingLayers x = CHECK.told("layer ask 0 0=9;layer ask 0 3=0;");
        due("first point", x.point(), 2);
        x.fact(0, 9);
        x.fact(3, 1);
        due("not yet", x.layer(0, 4) + 2 * x.layer(1, 4), 2);
        due("second point", x.point(), 1);
        x.sheet(0, 0, 4);
        x.facts(0, 0, 4);
        due("facts() neither", x.layer(0, 4) + 2 * x.layer(1, 4), 1);
        due("third point", x.point(), 2);
        x.fact(0, 9);
        x.fact(0, 0);
        due("as told last", x.point(), 2);
    }

    // "(at first all are 0)"
    private static void atFirstAllAreZero() {
        WakingLayers x = CHECK.told("layer ask 0 0=0;layer ask 0 1=0;layer ask 0 2=0;layer ask 0 3=0;"
            + "layer ask 0 0>0;layer ask 0 1>0;layer ask 0 2>0;layer ask 0 3>0;");
        due("all are 0", x.point(), 15);
        for (int fact = 0; fact <= 3; fact++) {
            x.fact(fact, 1);
        }
        due("none is 0", x.point(), 240);
    }

    // "a test: ... ( '<' | '>' | '=' ) NUMBER (0 to 9)", for all values at the least and the greatest NUMBER
    private static void testsAtTheirEdges() {
        WakingLayers x = CHECK.told("layer ask 0 3<0;layer ask 0 3>0;layer ask 0 3=0;"
            + "layer ask 0 3<9;layer ask 0 3>9;layer ask 0 3=9;layer ask 0 3<5;layer ask 0 3>5;");
        for (int v = 0; v <= 9; v++) {
            x.fact(3, v);
            int set = (v > 0 ? 2 : 0) | (v == 0 ? 4 : 0) | (v < 9 ? 8 : 0) | (v == 9 ? 32 : 0) | (v < 5 ? 64 : 0) | (v > 5 ? 128 : 0);
            due("value " + v, x.point(), set);
        }
    }

    // wake: "BAD: LAYER (not 'span', 'thing')"
    private static void wakeLayers() {
        WakingLayers x = CHECK.told("kind;thing 0 0;layer span 0;layer thing 0;layer ask 0;layer ever 0;");
        due("span", x.wake(0, NONE), 1);
        due("thing", x.wake(1, 0), 2);
        for (int layer : new int[] {2, 3, 4, 8, -1, MIN, MAX}) {
            due("no layer " + layer + " for none", x.wake(layer, NONE), BAD);
            due("no layer " + layer + " for a thing", x.wake(layer, 0), BAD);
        }
        due("two are open", x.count(5), 2);
    }

    // wake: "BAD: ... THING (of 'span' NONE)"
    private static void wakeThings() {
        WakingLayers x = CHECK.told("kind;thing 0 0;thing 0 0;layer span 0;layer thing 0;");
        for (int thing : new int[] {0, 1, 2, -1, NONE + 1, NONE - 1, MIN, MAX}) {
            due("span for " + thing, x.wake(0, thing), BAD);
        }
        for (int thing : new int[] {2, 7, 8, -1, NONE, MIN, MAX}) {
            due("thing for " + thing, x.wake(1, thing), BAD);
        }
        due("none is open", x.count(5), 0);
        due("span", x.wake(0, NONE), 1);
        due("thing 0", x.wake(1, 0), 2);
        due("thing 1", x.wake(1, 1), 3);
    }

    // wake: "how many are open", "FULL: 16", "At most 16 are open at a time"
    private static void wakeFull() {
        WakingLayers x = CHECK.told("kind;thing 0 0;layer span 0;layer thing 0;layer ask 0;");
        for (int k = 1; k <= 16; k++) {
            due("waking " + k, k <= 15 ? x.wake(0, NONE) : x.wake(1, 0), k);
        }
        due("the 17th", x.wake(0, NONE), FULL);
        due("the 17th for a thing", x.wake(1, 0), FULL);
        due("BAD thing ahead of FULL", x.wake(1, 1), BAD);
        due("BAD span's thing ahead of FULL", x.wake(0, 0), BAD);
        due("BAD layer ahead of FULL", x.wake(2, NONE), BAD);
        due("16", x.count(5), 16);
        due("15 of it", x.layer(0, 5), 15);
        due("one closed", x.sleep(0), 15);
        due("one more", x.wake(1, 0), 16);
        due("full again", x.wake(0, NONE), FULL);
    }

    // sleep: "BAD; STATE: none is"
    private static void sleepIsRefused() {
        WakingLayers x = CHECK.told("kind;thing 0 0;layer span 0;layer thing 0;layer span 0;");
        for (int layer : new int[] {-1, 3, 8, MIN, MAX}) {
            due("no layer " + layer, x.sleep(layer), BAD);
        }
        for (int layer = 0; layer <= 2; layer++) {
            due("none is open", x.sleep(layer), STATE);
        }
        x.wake(0, NONE);
        x.wake(1, 0);
        due("of another none is", x.sleep(2), STATE);
        due("two are open still", x.count(5), 2);
        due("one", x.sleep(0), 1);
        due("no more of it", x.sleep(0), STATE);
        due("of the other", x.sleep(1), 0);
        due("no more of that", x.sleep(1), STATE);
    }

    // "open till sleep() closes the latest open one of it"
    private static void sleepClosesTheLatestOfIt() {
        WakingLayers x = CHECK.told("kind;thing 0 0;thing 0 0;thing 0 0;layer thing 0;layer span 0;body 0 0 0 before;");
        x.wake(0, 2);
        x.wake(0, 0);
        x.wake(1, NONE);
        x.wake(0, 1);
        x.wake(1, NONE);
        due("of thing 1, the latest of it", x.sleep(0), 4);
        CHECK.row(x, 1, 0);
        CHECK.row(x, 0, 0, 0);
        CHECK.row(x, 2, 0, 0);
        due("both of the other stay", x.layer(1, 5), 2);
        due("of thing 0", x.sleep(0), 3);
        CHECK.row(x, 0, 0);
        CHECK.row(x, 2, 0, 0);
        due("of thing 2", x.sleep(0), 2);
        CHECK.row(x, 2, 0);
        due("asleep", x.layer(0, 4), 0);
    }

    // "an act 'wake' beyond that FAILS"
    private static void actsBeyondSixteen() {
        for (int open = 9; open <= 16; open++) {
            WakingLayers x = CHECK.told("kind;thing 0 0;layer span 0;layer thing 0;",
                "body plain 0 0 around wake 0 wake 1 wake 0 wake 1 wake 0 wake 1;body plain 0 1 before wake 0 call 0 0;");
            for (int k = 0; k < open; k++) {
                x.wake(0, NONE);
            }
            due("6 acts behind " + open, x.call(0, 0, 3), open + 6 <= 16 ? 3 : FAILS);
            due("7 acts behind " + open, x.call(0, 1, 3), open + 7 <= 16 ? 3 : FAILS);
            due("closed again", x.count(5), open);
        }
    }

    // "for the call's THING, if the LAYER is a 'thing' one"
    private static void actsForTheCallsThing() {
        WakingLayers x = CHECK.told("kind;thing 0 0;thing 0 0;layer thing 0;layer span 0;",
            "body plain 0 0 before wake 0 call 0 1 call 1 1;body 0 0 1 before add 1;"
            + "body plain 0 2 before wake 1 call 0 3 call 1 3;body 1 0 3 before add 1;");
        due("thing 0 alone", x.call(0, 0, 0), 1);
        CHECK.ran(x, 0, 1);
        due("thing 1 alone", x.call(1, 0, 0), 1);
        due("a span one for both", x.call(0, 2, 0), 2);
        CHECK.ran(x, 2, 3, 3);
    }

    private static final String WAYS = "kind;thing 0 0;layer span 0;body 0 0 3 before add 1;";

    // "by the act 'wake' in a body, open till that body is over"
    private static void closedWhenABodyGives() {
        WakingLayers x = CHECK.told(WAYS + "body plain 0 1 before wake 0;body plain 0 1 instead call 0 3;");
        due("before: open for the next body", x.call(0, 1, 0), 1);
        due("before: closed", x.count(5), 0);
        x = CHECK.told(WAYS + "body plain 0 1 around proceed call 0 3;body plain 0 1 behind wake 0 call 0 3;body plain 0 1 instead call 0 3;");
        due("behind: open from its acts on, closed behind it", x.call(0, 1, 0), 1);
        CHECK.ran(x, 1, 2, 3, 0);
        x = CHECK.told(WAYS + "body plain 0 1 around wake 0 proceed;body plain 0 1 instead call 0 3;");
        due("around: open for what it proceeds to", x.call(0, 1, 0), 1);
        due("around: closed", x.count(5), 0);
        x = CHECK.told(WAYS + "body plain 0 1 around proceed call 0 3;body plain 0 1 instead wake 0 call 0 3;");
        due("instead: open for its own acts alone", x.call(0, 1, 0), 1);
        CHECK.ran(x, 1, 2, 0);
        due("instead: closed", x.count(5), 0);
    }

    // "(on every way out)": the body itself FAILS
    private static void closedWhenABodyFails() {
        for (String way : new String[] {"before", "behind", "around", "instead"}) {
            WakingLayers x = CHECK.told("kind;thing 0 0;layer span 0;body plain 0 0 " + way + " wake 0 wake 0 fail;");
            due(way, x.call(0, 0, 0), FAILS);
            due(way + ": closed", x.count(5), 0);
            due(way + ": asleep", x.layer(0, 4), 0);
        }
    }

    // "(on every way out)": the next body FAILS
    private static void closedWhenTheNextFails() {
        for (String way : new String[] {"before wake 0", "behind wake 0", "around wake 0 proceed"}) {
            WakingLayers x = CHECK.told("kind;thing 0 0;layer span 0;",
                "body plain 0 0 behind call 0 1;body plain 0 0 " + way + ";body plain 0 0 before wake 0 fail;body 0 0 1 before;");
            due(way, x.call(0, 0, 0), FAILS);
            CHECK.ran(x, 0, 1, 2);
            due(way + ": closed", x.count(5), 0);
        }
    }

    // "WAKINGS by acts are closed on every way out": SPENT
    private static void closedWhenSpent() {
        WakingLayers x = CHECK.told("kind;thing 0 0;layer span 0;body plain 0 0 before wake 0 wake 0 call 0 0;");
        due("too deep", x.call(0, 0, 0), FAILS);
        due("too deep: six were begun", x.ran(-1), 6);
        due("too deep: closed", x.count(5), 0);
        WakingLayers y = CHECK.told("kind;thing 0 0;layer span 0;body plain 0 0 around wake 0 proceed proceed;",
            "body plain 0 0 around wake 0 proceed proceed;".repeat(5));
        due("too many", y.call(0, 0, 0), FAILS);
        due("too many: 60 were begun", y.ran(-1), 60);
        due("too many: closed", y.count(5), 0);
        y.wake(0, NONE);
        due("too many: one stays", y.call(0, 0, 0), FAILS);
        due("too many: one is open", y.count(5), 1);
    }

    // "(on every way out)": an act 'wake' FAILS
    private static void closedWhenAWakeActFails() {
        WakingLayers x = CHECK.told("kind;thing 0 0;layer span 0;body plain 0 0 before wake 0 wake 0 wake 0 wake 0 call 0 0;");
        due("fails", x.call(0, 0, 0), FAILS);
        due("at the 17th, in the fifth body", x.ran(-1), 5);
        due("closed", x.count(5), 0);
        for (int k = 0; k < 14; k++) {
            x.wake(0, NONE);
        }
        due("fails at its third", x.call(0, 0, 0), FAILS);
        due("in the first body", x.ran(-1), 1);
        due("14 stay", x.count(5), 14);
    }

    // "'ask' ones that are FOUND (at first none)"
    private static void foundAtFirstNone() {
        WakingLayers x = CHECK.told("layer ask 0;layer ask 0 0=0;");
        due("none", x.count(6), 0);
        due("not awake", x.layer(0, 4), 0);
        due("both", x.point(), 3);
        Check.feed(x, "layer ask 0;");
        x.read();
        due("a new one is not", x.layer(2, 4), 0);
        due("the others are still", x.count(6), 2);
        due("all", x.point(), 7);
    }

    // "AWAKE: 'ever' LAYERS"
    private static void everIsAwakeAtOnce() {
        WakingLayers x = CHECK.told("layer ever 0;layer ask 0 need 0;");
        due("at once", x.layer(0, 4), 1);
        due("needed", x.point(), 2);
        due("point() tells 'ask' ones alone", x.count(6), 2);
    }

    // "Whenever a WAKING is closed, of the FOUND ones those are FOUND no more, over and over, that need a LAYER that is not AWAKE"
    private static void closingLosesThoseThatNeed() {
        WakingLayers x = CHECK.told("layer span 0;layer ask 0 need 0;layer ask 0 need 1;layer ask 0 need 2;layer ask 0 need 3;"
            + "layer ask 0 need 4;layer ask 0 need 5;layer ask 0 need 6;");
        x.wake(0, NONE);
        due("all", x.point(), 254);
        x.sleep(0);
        due("all are lost", x.count(6), 0);
        x.wake(0, NONE);
        due("they come with a point alone", x.count(6), 1);
        due("all again", x.point(), 254);
    }

    // "(a 'thing' one: for any THING)"; one that is open still keeps them
    private static void closingKeepsTheOthers() {
        WakingLayers x = CHECK.told("kind;thing 0 0;thing 0 0;layer thing 0;layer span 0;layer ask 0 need 0;layer ask 0 need 1;layer ask 0;");
        x.wake(0, 0);
        x.wake(1, NONE);
        x.wake(0, 1);
        x.wake(1, NONE);
        due("all", x.point(), 28);
        x.sleep(0);
        x.sleep(1);
        due("one of each is open still", x.count(6), 5);
        x.sleep(1);
        due("the needing one is lost", x.layer(3, 4), 0);
        due("the other is not", x.layer(2, 4), 1);
        x.sleep(0);
        due("now it is", x.layer(2, 4), 0);
        due("one that needs none stays", x.layer(4, 4), 1);
    }

    // closing by acts: those that need what is open otherwise stay FOUND
    private static void closingByActsKeepsTheFound() {
        WakingLayers x = CHECK.told("kind;thing 0 0;layer span 0;layer ask 0 need 0;layer span 0;layer ask 0 need 2;",
            "body plain 0 0 before wake 0 wake 2;body plain 0 1 before wake 0 wake 2 fail;");
        x.wake(0, NONE);
        due("one", x.point(), 2);
        x.call(0, 0, 0);
        x.call(0, 1, 0);
        due("it stays", x.layer(1, 4), 1);
        due("an act finds none", x.layer(3, 4), 0);
        due("a point behind the call", x.point(), 2);
    }

    // point 1: "FOUND are just those whose test holds (or that have none), and all that they need are AWAKE"
    private static void justThoseWhoseTestHolds() {
        WakingLayers x = CHECK.told("layer span 0;layer span 0;layer ask 0 0=1;layer ask 0;layer ask 0 0=1 need 0 need 1;layer ask 0 need 1;");
        due("no test", x.point(), 8);
        x.fact(0, 1);
        due("test", x.point(), 12);
        x.wake(0, NONE);
        due("one of two needed", x.point(), 12);
        x.wake(1, NONE);
        due("both", x.point(), 60);
        x.fact(0, 0);
        due("needed, without the test", x.point(), 40);
    }

    // point 1: "by numbers": a needed 'ask' LAYER counts as this POINT finds it, not as it was
    private static void needsByNumbers() {
        WakingLayers x = CHECK.told("layer ask 0 0=1;layer ask 0 need 0;layer ask 0 need 1;layer ask 0 0=0;layer ask 0 need 3;");
        due("0", x.point(), 24);
        x.fact(0, 1);
        due("1", x.point(), 7);
        x.fact(0, 0);
        due("0 again", x.point(), 24);
    }

    // point 2: "all at once: 'ask' LAYERS that any FOUND one bars are FOUND no more"
    private static void barredAllAtOnce() {
        WakingLayers x = CHECK.told("layer ask 0;layer ask 0 bar 0;layer ask 0 bar 1;layer ask 0 bar 2;");
        due("a chain", x.point(), 8);
        WakingLayers y = CHECK.told("layer ask 0;layer ask 0 0=1 bar 0;layer ask 0 1=1 bar 0;");
        due("none bars", y.point(), 1);
        y.fact(0, 1);
        due("one bars", y.point(), 2);
        y.fact(1, 1);
        due("two bar", y.point(), 6);
        WakingLayers z = CHECK.told("layer span 0;layer ever 0;layer ask 0;layer ask 0 bar 0 bar 1 bar 2;");
        z.wake(0, NONE);
        due("'ask' ones alone", z.point(), 8);
        due("the others are awake", z.count(6), 3);
        WakingLayers w = CHECK.told("layer span 0;layer ask 0;layer ask 0 need 0 bar 1;");
        due("one that is not found bars none", w.point(), 2);
    }

    // point 3: "over and over: those that need one that is not AWAKE are FOUND no more"
    private static void barsOverAndOver() {
        WakingLayers x = CHECK.told("layer ask 0;layer ask 0 need 0;layer ask 0 need 1;layer ask 0 need 2;layer ask 0 need 3;"
            + "layer ask 0 need 4;layer ask 0 need 5;layer ask 0 0=1 bar 0;");
        due("not barred", x.point(), 127);
        x.fact(0, 1);
        due("barred, and all that need it", x.point(), 128);
        WakingLayers y = CHECK.told("layer ask 0;layer ask 0;layer ask 0 need 0 bar 1;layer ask 0 bar 0;");
        due("what one bars stays barred if that one is lost", y.point(), 8);
    }

    // a POINT where no LAYER is told
    private static void pointWithoutLayers() {
        WakingLayers x = new WakingLayers();
        due("none", x.point(), 0);
        Check.feed(x, "layer ever 0;layer span 0;layer thing 0;");
        x.read();
        due("no 'ask' one", x.point(), 0);
    }
}
