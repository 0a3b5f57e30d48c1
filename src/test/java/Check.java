/** Counts and prints the answers of a test that are not as due. */
final class Check {
    private int wrong;
    private int looked;

    void due(String what, long got, long want) {
        looked++;
        if (got != want) {
            wrong++;
            System.out.println(what + " answered " + got + ", due is " + want);
        }
    }

    /** Feeds a text in pieces of 8 bytes: how many bytes the tape has then, or the last refusal. */
    static int feed(WakingLayers x, String text) {
        int answer = x.count(7);
        for (int from = 0; from < text.length(); from += 8) {
            int n = Math.min(8, text.length() - from);
            long w = 0;
            for (int k = 0; k < n; k++) {
                w = w << 8 | text.charAt(from + k) & 255;
            }
            answer = x.feed(w, n);
        }
        return answer;
    }

    /** A new object that has read some texts; each must be without a FAULT. */
    WakingLayers told(String... texts) {
        WakingLayers x = new WakingLayers();
        for (String text : texts) {
            feed(x, text);
            int answer = x.read();
            if (answer < 0) {
                due("read of " + text, answer, 0);
            }
        }
        return x;
    }

    void fault(WakingLayers x, String text, int place, int number) {
        feed(x, text);
        due("read() of '" + text + "'", x.read(), -1000100 - place);
        due("fault() of '" + text + "'", x.fault(), number);
    }

    /** A new object that has read some texts, the last of which has a FAULT. */
    void fault(String ahead, String text, int place, int number) {
        fault(ahead.isEmpty() ? new WakingLayers() : told(ahead), text, place, number);
    }

    /** A text that a new object takes behind another. */
    void fine(String ahead, String text) {
        WakingLayers x = ahead.isEmpty() ? new WakingLayers() : told(ahead);
        feed(x, text);
        due("read() of '" + text + "' is a fault", x.read() < 0 ? 1 : 0, 0);
        due("fault() of '" + text + "'", x.fault(), 0);
    }

    /** An ITEM of 0 to 9, by way of FACT 0, which is told anew. */
    static int item(WakingLayers x, int sheet, int i) {
        int answer = x.facts(sheet, i, 1);
        return answer == 1 ? x.fact(0, 0) : answer;
    }

    /** Each body of a row, and that it is followed by NONE. */
    void row(WakingLayers x, int thing, int routine, int... bodies) {
        String what = "row(" + thing + ", " + routine + ", ";
        due(what + "-1)", x.row(thing, routine, -1), bodies.length);
        for (int i = 0; i < bodies.length; i++) {
            due(what + i + ")", x.row(thing, routine, i), bodies[i]);
        }
        due(what + bodies.length + ")", x.row(thing, routine, bodies.length), WakingLayers.NONE);
    }

    void ran(WakingLayers x, int... bodies) {
        due("ran(-1)", x.ran(-1), bodies.length);
        for (int i = 0; i < bodies.length; i++) {
            due("ran(" + i + ")", x.ran(i), bodies[i]);
        }
        due("ran(" + bodies.length + ")", x.ran(bodies.length), WakingLayers.NONE);
    }

    void trace(WakingLayers x, int... numbers) {
        for (int i = 0; i < numbers.length; i++) {
            due("trace(" + i + ")", x.trace(i), numbers[i]);
        }
        due("trace(" + numbers.length + ")", x.trace(numbers.length), WakingLayers.NONE);
    }

    void sets(WakingLayers x, int m, int... sets) {
        String what = "together(" + m + ", ";
        due(what + "-1)", x.together(m, -1), sets.length);
        for (int i = 0; i < sets.length; i++) {
            due(what + i + ")", x.together(m, i), sets[i]);
        }
        due(what + sets.length + ")", x.together(m, sets.length), WakingLayers.NONE);
    }

    void finish() {
        System.out.println(looked + " answers looked at, " + wrong + " not as due");
        if (wrong != 0) {
            System.exit(1);
        }
    }
}
