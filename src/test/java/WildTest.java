import java.util.Random;

/**
 * All calls with any numbers at all, in any state, by chance with told seeds: none throws (that
 * would end this test), and every answer is one that the document has for that call.
 */
public final class WildTest {
    private static final int NONE = -1000000, BAD = -1000001, STATE = -1000002, FULL = -1000003, FAILS = -1000004;
    private static final int NULL = -1000011, PLACE = -1000012, KIND = -1000013, SIZE = -1000014, STORE = -1000015;
    private static final int RUNS = 4000, CALLS = 512;
    private static final int[] FAR = {Integer.MIN_VALUE, Integer.MIN_VALUE + 1, Integer.MAX_VALUE, Integer.MAX_VALUE - 1,
        NONE, BAD, -2, -1, 8, 9, 10, 24, 31, 32, 33, 39, 40, 41, 60, 255, 256, 1000002, 1000003};
    private static final String[] TELLINGS = {"kind;", "kind under 0;", "kind under 1;", "thing 0 7;", "thing 1 99;",
        "layer span 1;", "layer thing 1;", "layer ever 1;", "layer ask 1 0>0 need 0 bar 1;", "layer ask 1 1<2 need 1;",
        "layer ask 2 need 3;", "layer ask 0 3 = 1 bar 3 bar 4;", "body plain 0 0 behind add 1 call 0 0;",
        "body plain 1 1 around proceed proceed proceed;", "body 0 0 0 before wake 0 call 0 1;",
        "body 1 0 1 behind wake 1 fail;", "body 2 1 0 around proceed wake 1 call 1 0;", "body 3 0 0 instead mul 9 own;",
        "body 4 0 1 around call 0 0 proceed;", "body 3 0 1 around proceed proceed call 1 1 call 1 1 wake 0 proceed;",
        "body plain 0 2 around proceed proceed proceed proceed;", "body plain 0 2 before own own own own own own own;"};
    private static final int[] FAULTY = faultyAnswers();
    private static final Check CHECK = new Check();

    private final Random chance;
    private final String name;
    private final WakingLayers x = new WakingLayers();

    private WildTest(int seed) {
        chance = new Random(seed);
        name = "seed " + seed + ": ";
    }

    public static void main(String[] args) {
        for (int seed = 0; seed < RUNS; seed++) {
            new WildTest(seed).run();
        }
        CHECK.finish();
    }

    private void run() {
        if (chance.nextBoolean()) {
            for (String telling : TELLINGS) {
                feed(telling);
                due("read", x.read(), 0, 24, FAULTY);
            }
        }
        for (int n = 0; n < CALLS; n++) {
            int group = chance.nextInt(12);
            if (group < 2) {
                callSheets();
            } else if (group < 6) {
                callTexts();
            } else if (group < 8) {
                callWakings();
            } else if (group < 10) {
                callCalls();
            } else {
                callAsked();
            }
        }
    }

    private int any() {
        switch (chance.nextInt(12)) {
            case 0:
                return chance.nextInt();
            case 1:
                return FAR[chance.nextInt(FAR.length)];
            default:
                return chance.nextInt(6);
        }
    }

    private int place() {
        switch (chance.nextInt(4)) {
            case 0:
                return -1;
            case 1:
                return chance.nextInt(64);
            default:
                return any();
        }
    }

    /** The answer is from least to most, or one of these. */
    private void due(String call, int answer, int least, int most, int... others) {
        boolean fits = answer >= least && answer <= most;
        for (int other : others) {
            fits |= answer == other;
        }
        CHECK.due(name + call + " answered " + answer + ": fits", fits ? 1 : 0, 1);
    }

    private void callSheets() {
        switch (chance.nextInt(5)) {
            case 0:
                due("sheet", x.sheet(any(), any(), any()), 0, 40, BAD, SIZE);
                break;
            case 1:
                due("set", x.set(any(), any(), any()), Integer.MIN_VALUE, Integer.MAX_VALUE);
                break;
            case 2:
                due("copy", x.copy(any(), any(), any(), any(), any()), 0, 40, BAD, NULL, PLACE, STORE);
                break;
            case 3:
                due("drop", x.drop(any()), 0, 40, BAD, NULL);
                break;
            default:
                due("facts", x.facts(any(), any(), any()), 1, 4, BAD, NULL, PLACE);
                break;
        }
    }

    private void callTexts() {
        switch (chance.nextInt(6)) {
            case 0:
                due("feed", x.feed(chance.nextLong(), any()), 1, 600, BAD, FULL);
                break;
            case 1:
                due("read", x.read(), 0, 24, FAULTY);
                break;
            case 2:
                due("fault", x.fault(), 0, 3);
                break;
            case 3:
                due("layer", x.layer(any(), any()), 0, 255, BAD);
                break;
            default:
                feed(TELLINGS[chance.nextInt(TELLINGS.length)]);
                if (chance.nextInt(3) > 0) {
                    due("read", x.read(), 0, 24, FAULTY);
                }
                break;
        }
    }

    private void feed(String telling) {
        for (int n = 0; n < telling.length(); n++) {
            due("feed", x.feed(telling.charAt(n), 1), 1, 600, FULL);
        }
    }

    private static int[] faultyAnswers() {
        int[] answers = new int[601];
        for (int place = 0; place <= 600; place++) {
            answers[place] = -1000100 - place;
        }
        return answers;
    }

    private void callWakings() {
        switch (chance.nextInt(4)) {
            case 0:
                due("fact", x.fact(any(), any()), 0, 9, BAD);
                break;
            case 1:
                due("point", x.point(), 0, 255);
                break;
            case 2:
                due("wake", x.wake(any(), chance.nextBoolean() ? NONE : any()), 1, 16, BAD, FULL);
                break;
            default:
                due("sleep", x.sleep(any()), 0, 15, BAD, STATE);
                break;
        }
    }

    private void callCalls() {
        switch (chance.nextInt(5)) {
            case 0:
                due("row", x.row(any(), any(), place()), 0, 24, BAD, NONE);
                break;
            case 1:
                due("call", x.call(any(), any(), any()), 0, 1000002, BAD, FAILS);
                break;
            case 2:
                due("ran", x.ran(place()), 0, 60, NONE);
                break;
            case 3:
                due("together", x.together(any(), place()), 0, 256, BAD, NONE);
                break;
            default:
                due("same", x.same(any(), any(), any(), any(), any()), 0, 1, BAD);
                break;
        }
    }

    private void callAsked() {
        switch (chance.nextInt(6)) {
            case 0:
                due("kind", x.kind(any()), 1, 5, BAD);
                break;
            case 1:
                due("as", x.as(any(), any()), 0, 9, BAD, KIND);
                break;
            case 2:
                due("ask", x.ask(any(), any()), 0, 9 + 24 + 100 + 8, BAD);
                break;
            case 3:
                due("trace", x.trace(any()), 10, 22, NONE);
                break;
            case 4:
                due("count", x.count(any()), 0, 600, BAD);
                break;
            default:
                due("status", x.status(), 0, 5);
                break;
        }
    }
}
