import java.util.ArrayList;
import java.util.List;
import java.util.function.ToIntFunction;

/**
 * "What is refused, or found, changes nothing but status()": each refusal and finding of the
 * document on an object of which much is told, and then all that can be seen of it, against the same
 * of an object without that call.
 */
public final class RefusedTest {
    private static final int NONE = -1000000, BAD = -1000001, STATE = -1000002, FULL = -1000003;
    private static final int NULL = -1000011, PLACE = -1000012, KIND = -1000013, SIZE = -1000014, STORE = -1000015;
    private static final int STATUS_AHEAD = 2;
    private static final Check CHECK = new Check();
    private static final List<Integer> UNTOUCHED = seen(rich());

    public static void main(String[] args) {
        sheets();
        texts();
        facts();
        wakings();
        calls();
        asked();
        faults();
        allCallsOfAnObject();
        CHECK.finish();
    }

    /** Sheets of each lane, a full tape, facts told that do not hold, 16 wakings, what ran and a trace. */
    private static WakingLayers rich() {
        WakingLayers x = CHECK.told("kind;kind under 0;thing 1 5;thing 0 99;layer span 1;layer thing 1;layer ask 3 0=1 need 0;"
            + "layer ask 4 need 2 bar 0;layer ever 1;layer span 9;",
            "body plain 0 0 before add 1;body 0 1 0 around proceed own;body 1 0 0 behind mul 3;body 2 0 0 before add 2;"
            + "body 3 1 1 instead call 1 0;body 4 0 1 before wake 5;body plain 0 2 before fail;body 5 0 3 before;");
        int[] lanes = {0, 1, 2, 2};
        for (int sheet = 0; sheet < 4; sheet++) {
            x.sheet(sheet, lanes[sheet], 3);
            for (int i = 0; i < 3; i++) {
                x.set(sheet, i, sheet + i + 1);
            }
        }
        x.set(3, 2, 10);
        x.fact(0, 1);
        for (int k = 0; k < 16; k++) {
            if (k % 3 == 0) {
                x.wake(0, NONE);
            } else {
                x.wake(1, k % 2);
            }
        }
        x.point();
        x.fact(0, 7);
        x.fact(1, 4);
        Check.feed(x, "thing?");
        x.read();
        Check.feed(x, "kind;" + " ".repeat(592));
        x.call(0, 0, 5);
        x.ask(3, 0);
        x.set(0, 3, 0);
        return x;
    }

    /** All that can be seen, but for status(); what must be called to see it comes last. */
    private static List<Integer> seen(WakingLayers x) {
        List<Integer> seen = new ArrayList<>();
        seen.add(x.fault());
        for (int what = 0; what <= 7; what++) {
            seen.add(x.count(what));
        }
        for (int layer = 0; layer < 7; layer++) {
            for (int what = 0; what <= 5; what++) {
                seen.add(x.layer(layer, what));
            }
        }
        for (int i = -1; i < 10; i++) {
            seen.add(x.ran(i));
            seen.add(x.trace(i));
        }
        for (int thing = 0; thing < 3; thing++) {
            for (int routine = 0; routine <= 3; routine++) {
                for (int i = -1; i < 5; i++) {
                    seen.add(x.row(thing, routine, i));
                }
            }
        }
        seenByUse(x, seen);
        return seen;
    }

    private static void seenByUse(WakingLayers x, List<Integer> seen) {
        for (int layer = 0; layer <= 5; layer++) {
            seen.add(x.ask(layer, 0));
        }
        for (int routine = 0; routine <= 3; routine++) {
            seen.add(x.call(0, routine, 1));
            seen.add(x.call(1, routine, 1));
        }
        seen.add(x.read());
        seen.add(x.count(1));
        for (int k = 0; k < 16; k++) {
            seen.add(x.sleep(k % 3 == 0 ? 0 : 1));
            seen.add(x.row(k % 2, 0, 0));
        }
        for (int fact = 0; fact <= 3; fact++) {
            seen.add(x.fact(fact, 0));
        }
        for (int sheet = 0; sheet <= 7; sheet++) {
            for (int i = 0; i < 3; i++) {
                seen.add(Check.item(x, sheet, i));
            }
            seen.add(x.set(sheet, 0, 70000));
            seen.add(x.drop(sheet));
        }
    }

    private static void refused(String what, ToIntFunction<WakingLayers> call, int answer) {
        WakingLayers x = rich();
        CHECK.due(what + ": status ahead", x.status(), STATUS_AHEAD);
        CHECK.due(what, call.applyAsInt(x), answer);
        boolean found = answer <= NULL && answer >= STORE;
        CHECK.due(what + ": status", x.status(), found ? -1000010 - answer : STATUS_AHEAD);
        CHECK.due(what + ": changes nothing", seen(x).equals(UNTOUCHED) ? 1 : 0, 1);
    }

    private static void sheets() {
        refused("sheet 8", x -> x.sheet(8, 0, 1), BAD);
        refused("sheet lane 3", x -> x.sheet(0, 3, 1), BAD);
        refused("sheet 41", x -> x.sheet(0, 0, 41), BAD);
        refused("sheet 41 of one missing", x -> x.sheet(7, 0, 41), BAD);
        refused("sheet -1", x -> x.sheet(0, 0, -1), SIZE);
        refused("sheet -1 of one missing", x -> x.sheet(7, 1, -1), SIZE);
        refused("set 8", x -> x.set(8, 0, 9), BAD);
        refused("set missing", x -> x.set(7, 0, 9), NULL);
        refused("set place 3", x -> x.set(1, 3, 9), PLACE);
        refused("set place -1", x -> x.set(1, -1, 9), PLACE);
        refused("copy 8", x -> x.copy(0, 0, 8, 0, 1), BAD);
        refused("copy -1", x -> x.copy(-1, 0, 0, 0, 1), BAD);
        refused("copy missing a", x -> x.copy(7, 0, 0, 0, 1), NULL);
        refused("copy missing b", x -> x.copy(0, 0, 7, 0, 1), NULL);
        refused("copy of two lanes", x -> x.copy(1, 0, 2, 0, 2), STORE);
        refused("copy beyond a", x -> x.copy(2, 1, 3, 0, 3), PLACE);
        refused("copy beyond b", x -> x.copy(2, 0, 3, 1, 3), PLACE);
        refused("copy beyond b, onto itself", x -> x.copy(2, 0, 2, 1, 3), PLACE);
        refused("copy n -1", x -> x.copy(2, 1, 3, 1, -1), PLACE);
        refused("drop 8", x -> x.drop(8), BAD);
        refused("drop missing", x -> x.drop(7), NULL);
    }

    private static void texts() {
        refused("feed 0", x -> x.feed(59, 0), BAD);
        refused("feed 9", x -> x.feed(59, 9), BAD);
        refused("feed 4 of 3", x -> x.feed(0x3b3b3b3bL, 4), FULL);
        refused("feed 8 of 3", x -> x.feed(0x3b3b3b3b3b3b3b3bL, 8), FULL);
        refused("layer 6", x -> x.layer(6, 0), BAD);
        refused("layer what 6", x -> x.layer(0, 6), BAD);
    }

    private static void facts() {
        refused("fact 4", x -> x.fact(4, 1), BAD);
        refused("fact -1", x -> x.fact(-1, 1), BAD);
        refused("fact of 10", x -> x.fact(0, 10), BAD);
        refused("fact of -1", x -> x.fact(0, -1), BAD);
        refused("facts 8", x -> x.facts(8, 0, 1), BAD);
        refused("facts n 0", x -> x.facts(2, 0, 0), BAD);
        refused("facts n 5", x -> x.facts(2, 0, 5), BAD);
        refused("facts missing", x -> x.facts(7, 0, 1), NULL);
        refused("facts beyond", x -> x.facts(2, 1, 3), PLACE);
        refused("facts below", x -> x.facts(2, -1, 3), PLACE);
        refused("facts of an item", x -> x.facts(3, 0, 3), BAD);
    }

    private static void wakings() {
        refused("wake 6", x -> x.wake(6, NONE), BAD);
        refused("wake ask", x -> x.wake(2, NONE), BAD);
        refused("wake ever", x -> x.wake(4, NONE), BAD);
        refused("wake span for a thing", x -> x.wake(0, 0), BAD);
        refused("wake thing for none", x -> x.wake(1, NONE), BAD);
        refused("wake thing for no such", x -> x.wake(1, 2), BAD);
        refused("wake span beyond 16", x -> x.wake(0, NONE), FULL);
        refused("wake another span beyond 16", x -> x.wake(5, NONE), FULL);
        refused("wake thing beyond 16", x -> x.wake(1, 0), FULL);
        refused("sleep 6", x -> x.sleep(6), BAD);
        refused("sleep of none", x -> x.sleep(5), STATE);
    }

    private static void calls() {
        refused("row thing", x -> x.row(2, 0, 0), BAD);
        refused("row routine", x -> x.row(0, 4, 0), BAD);
        refused("row i", x -> x.row(0, 0, -2), BAD);
        refused("row not so many", x -> x.row(0, 0, 24), NONE);
        refused("call thing", x -> x.call(2, 0, 0), BAD);
        refused("call routine", x -> x.call(0, 4, 0), BAD);
        refused("call number above", x -> x.call(0, 0, 1000003), BAD);
        refused("call number below", x -> x.call(0, 0, -1), BAD);
        refused("ran none", x -> x.ran(40), NONE);
        refused("together m", x -> x.together(4, -1), BAD);
        refused("together i", x -> x.together(1, -2), BAD);
        refused("together not so many", x -> x.together(1, 256), NONE);
        refused("together leaves all", x -> x.together(3, -1), 2);
        refused("same layer", x -> x.same(0, 0, 0, 0, 1), BAD);
        refused("same thing", x -> x.same(2, 2, 0, 0, 1), BAD);
        refused("same routine", x -> x.same(2, 0, 4, 0, 1), BAD);
        refused("same number", x -> x.same(2, 0, 0, 1000003, 1), BAD);
        refused("same m", x -> x.same(2, 0, 0, 0, 4), BAD);
        refused("same leaves all", x -> x.same(2, 0, 0, 0, 3), 0);
        refused("same of a failure leaves all", x -> x.same(3, 0, 1, 0, 3), 0);
    }

    private static void asked() {
        refused("kind", x -> x.kind(6), BAD);
        refused("as layer", x -> x.as(6, 0), BAD);
        refused("as kind", x -> x.as(0, 6), BAD);
        refused("as no such", x -> x.as(0, 2), KIND);
        refused("ask layer", x -> x.ask(6, 0), BAD);
        refused("ask what", x -> x.ask(0, 2), BAD);
        refused("trace none", x -> x.trace(16), NONE);
        refused("count", x -> x.count(8), BAD);
    }

    // read: "-1000100 less the place of a FAULT: nothing comes", but the tape is empty then, and fault() tells it
    private static void faults() {
        String[] texts = {"?", "kind", "kind under 0;thing 2 9;layer ever 9;body 6 2 0 before fail;body plain 0 0 instead;kind under 9;",
            "kind;kind;kind;kind;kind;kind;kind;", "body plain 1 0 instead add 9 add 9 add 9 add 9 add 9 add 9 add 9;",
            "layer ask 9 0=1 need 2 bar 3;layer ask 9 need 6 need 7;", "thing 0 0;thing 0 100;"};
        int[] faults = {1, 1, 2, 3, 3, 2, 2};
        WakingLayers untouched = rich();
        untouched.read();
        List<Integer> wanted = seen(untouched);
        for (int n = 0; n < texts.length; n++) {
            WakingLayers x = rich();
            x.read();
            Check.feed(x, texts[n]);
            CHECK.due("a fault in '" + texts[n] + "'", x.read() <= -1000100 ? 1 : 0, 1);
            CHECK.due("its number", x.fault(), faults[n]);
            CHECK.due("status stays", x.status(), STATUS_AHEAD);
            List<Integer> seen = seen(x);
            seen.set(0, wanted.get(0));
            CHECK.due("nothing comes of '" + texts[n] + "'", seen.equals(wanted) ? 1 : 0, 1);
        }
    }

    // "An object is used for at most 512 calls": the last of them answers as the first
    private static void allCallsOfAnObject() {
        WakingLayers x = new WakingLayers();
        for (int k = 0; k < 64; k++) {
            CHECK.due("call " + 8 * k + ": sheet", x.sheet(k % 8, k % 3, 40), 40);
            CHECK.due("set", x.set(k % 8, 39, 300), k % 3 == 0 ? 44 : 300);
            CHECK.due("drop", x.drop(k % 8), 40);
            CHECK.due("feed", x.feed(0x6b696e643bL, 5), 5);
            CHECK.due("read", x.read(), k < 8 ? 0 : -1000100);
            CHECK.due("fault", x.fault(), k < 8 ? 0 : 3);
            CHECK.due("kinds", x.count(1), Math.min(8, k + 1));
            CHECK.due("status", x.status(), 0);
        }
    }
}
