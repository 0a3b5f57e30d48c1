import java.util.List;
import java.util.Random;

/** Runs of calls by chance, with told seeds: every answer of WakingLayers is set against Model's. */
public final class ModelTest {
    private static final int NONE = -1000000, BAD = -1000001, STATE = -1000002, FULL = -1000003;
    private static final int RUNS = 6000, CALLS = 120;
    private static final String[] TOKENS = {"kind", "thing", "layer", "body", "under", "need", "bar", "span", "ask", "ever",
        "plain", "before", "behind", "around", "instead", "add", "mul", "own", "proceed", "call", "wake", "fail",
        ";", "<", ">", "=", "0", "1", "3", "7", "9", "10", "23", "99", "100", "1234", "x", "A", ","};
    private static final Check CHECK = new Check();

    private final Random chance;
    private final String name;
    private final WakingLayers x = new WakingLayers();
    private final Model model = new Model();
    private int latestFault;

    private ModelTest(int seed) {
        chance = new Random(seed);
        name = "seed " + seed + ": ";
    }

    public static void main(String[] args) {
        for (int seed = 0; seed < RUNS; seed++) {
            new ModelTest(seed).run();
        }
        CHECK.finish();
    }

    private void due(String what, long got, long want) {
        CHECK.due(name + what, got, want);
    }

    private int upTo(int limit) {
        return chance.nextInt(limit);
    }

    private void run() {
        int shape = upTo(4);
        for (int n = 1 + upTo(3); n > 0; n--) {
            read(kindsAndThings(shape));
            read(someLayers(shape));
            read(someBodies(shape));
        }
        for (int n = 0; n < CALLS; n++) {
            step();
        }
    }

    // ---- texts

    private String kindsAndThings(int shape) {
        StringBuilder text = new StringBuilder();
        for (int n = 1 + upTo(3); n > 0; n--) {
            text.append(upTo(2) == 0 ? "kind;" : "kind under " + upTo(Math.max(1, model.kinds.size())) + ";");
        }
        for (int n = 1 + upTo(3); n > 0; n--) {
            text.append("thing " + upTo(model.kinds.size() + 1) + " " + upTo(100) + ";");
        }
        return perhapsWrong(text.toString());
    }

    private String someLayers(int shape) {
        StringBuilder text = new StringBuilder();
        int count = model.layers.size();
        for (int n = 1 + upTo(4); n > 0; n--) {
            String sort = new String[] {"span", "thing", "ask", "ask", "ask", "ever"}[upTo(6)];
            text.append("layer " + sort + " " + upTo(shape == 0 ? 10 : 3));
            if (sort.equals("ask")) {
                if (upTo(3) > 0) {
                    text.append(" " + upTo(4) + "<>=".charAt(upTo(3)) + upTo(4));
                }
                for (int k = upTo(3); k > 0 && count > 0; k--) {
                    text.append((upTo(2) == 0 ? " need " : " bar ") + upTo(count));
                }
            }
            text.append(";");
            count++;
        }
        return perhapsWrong(text.toString());
    }

    private String someBodies(int shape) {
        StringBuilder text = new StringBuilder();
        for (int n = 1 + upTo(9); n > 0; n--) {
            String owner = upTo(3) == 0 || model.layers.isEmpty() ? "plain" : "" + upTo(model.layers.size());
            String way = new String[] {"before", "behind", "around", "around", "behind", "instead"}[upTo(shape == 1 ? 5 : 6)];
            text.append("body " + owner + " " + upTo(Math.max(1, model.kinds.size())) + " " + upTo(shape == 2 ? 2 : 4) + " " + way);
            for (int k = upTo(5); k > 0; k--) {
                text.append(" " + someAct(way, shape));
            }
            text.append(";");
        }
        return perhapsWrong(text.toString());
    }

    private String someAct(String way, int shape) {
        switch (upTo(shape == 3 ? 14 : 11)) {
            case 0:
                return "add " + upTo(10);
            case 1:
                return "mul " + upTo(10);
            case 2:
                return "own";
            case 3:
                return upTo(4) == 0 ? "fail" : "own";
            case 4:
            case 5:
            case 6:
                return way.equals("around") ? "proceed" : "add 1";
            case 7:
            case 8:
                return "wake " + upTo(Math.max(1, model.layers.size()));
            default:
                return "call " + upTo(Math.max(1, model.things.size())) + " " + upTo(4);
        }
    }

    private String perhapsWrong(String text) {
        if (upTo(5) > 0) {
            return text;
        }
        String[] parts = text.split("(?<=[ ;<>=])|(?=[ ;<>=])");
        int at = upTo(parts.length);
        String other = TOKENS[upTo(TOKENS.length)];
        parts[at] = upTo(3) == 0 ? "" : upTo(2) == 0 ? other : parts[at] + " " + other + " ";
        return String.join("", parts);
    }

    private void read(String text) {
        boolean fits = text.length() <= 600;
        String fed = fits ? text : text.substring(0, 600);
        if (upTo(10) == 0) {
            fed = fed.substring(0, upTo(fed.length() + 1));
        }
        due("feed", Check.feed(x, fed), fed.length());
        int want;
        try {
            model.read(fed);
            want = model.bodies.size();
        } catch (Model.Fault fault) {
            want = -1000100 - fault.place;
            latestFault = fault.number;
        }
        due("read of '" + fed + "'", x.read(), want);
        due("fault of '" + fed + "'", x.fault(), latestFault);
        due("kinds", x.count(1), model.kinds.size());
        due("things", x.count(2), model.things.size());
        due("layers", x.count(3), model.layers.size());
        due("bodies", x.count(4), model.bodies.size());
    }

    // ---- calls

    private void step() {
        switch (upTo(16)) {
            case 0:
                tell();
                break;
            case 1:
            case 2:
                due("point", x.point(), model.point());
                break;
            case 3:
            case 4:
            case 5:
                wake();
                break;
            case 6:
                sleep();
                break;
            case 7:
            case 8:
                row();
                break;
            case 9:
            case 10:
            case 11:
                call();
                break;
            case 12:
                together();
                break;
            case 13:
                same();
                break;
            case 14:
                ask();
                break;
            default:
                layer();
                break;
        }
    }

    private void tell() {
        int fact = upTo(4);
        int v = upTo(5);
        due("fact", x.fact(fact, v), model.told[fact]);
        model.told[fact] = v;
    }

    private void wake() {
        int layer = upTo(9) - 1;
        int thing = upTo(3) == 0 ? NONE : upTo(10) - 1;
        int want = BAD;
        if (isLayer(layer)) {
            String sort = model.layers.get(layer).sort;
            if (sort.equals("span") && thing == NONE || sort.equals("thing") && isThing(thing)) {
                want = model.wake(layer, thing) ? model.openCount() : FULL;
            }
        }
        due("wake(" + layer + ", " + thing + ")", x.wake(layer, thing), want);
    }

    private void sleep() {
        int layer = upTo(9) - 1;
        int want = BAD;
        if (isLayer(layer)) {
            want = model.sleep(layer) ? model.openCount() : STATE;
        }
        due("sleep(" + layer + ")", x.sleep(layer), want);
    }

    private boolean isLayer(int layer) {
        return layer >= 0 && layer < model.layers.size();
    }

    private boolean isThing(int thing) {
        return thing >= 0 && thing < model.things.size();
    }

    private void row() {
        int thing = upTo(8);
        int routine = upTo(4);
        if (!isThing(thing)) {
            due("row", x.row(thing, routine, -1), BAD);
            return;
        }
        List<Integer> row = model.row(thing, routine);
        due("row length", x.row(thing, routine, -1), row.size());
        for (int i = 0; i <= row.size(); i++) {
            due("row " + i, x.row(thing, routine, i), i < row.size() ? row.get(i) : NONE);
        }
    }

    private int someNumber() {
        return upTo(3) == 0 ? 1000002 - upTo(50) : upTo(50);
    }

    private void call() {
        int thing = upTo(8);
        int routine = upTo(4);
        int number = someNumber();
        int want = isThing(thing) ? model.call(thing, routine, number) : BAD;
        due("call(" + thing + ", " + routine + ", " + number + ")", x.call(thing, routine, number), want);
        ran();
    }

    private void ran() {
        due("ran(-1)", x.ran(-1), model.ran.size());
        for (int i = 0; i <= 60; i++) {
            due("ran(" + i + ")", x.ran(i), i < 40 && i < model.ran.size() ? model.ran.get(i) : NONE);
        }
        due("open behind a call", x.count(5), model.openCount());
    }

    private void together() {
        int m = 1 + upTo(3);
        List<Integer> sets = model.together(m);
        due("together(" + m + ", -1)", x.together(m, -1), sets.size());
        for (int i = 0; i <= sets.size(); i++) {
            due("together " + i, x.together(m, i), i < sets.size() ? sets.get(i) : NONE);
        }
    }

    private void same() {
        int layer = upTo(8);
        int thing = upTo(Math.max(1, model.things.size()));
        int routine = upTo(4);
        int m = 1 + upTo(2);
        int number = someNumber();
        int want = BAD;
        if (isLayer(layer) && model.layers.get(layer).sort.equals("ask") && isThing(thing)) {
            want = model.same(layer, thing, routine, number, m) ? 1 : 0;
        }
        due("same(" + layer + ", " + thing + ")", x.same(layer, thing, routine, number, m), want);
        ran();
    }

    private void ask() {
        int layer = upTo(8);
        int what = upTo(2);
        if (!isLayer(layer)) {
            due("ask", x.ask(layer, what), BAD);
            return;
        }
        due("kind", x.kind(layer), model.kind(layer));
        due("ask(" + layer + ", " + what + ")", x.ask(layer, what), model.ask(layer, what));
        for (int i = 0; i <= model.trace.size(); i++) {
            due("trace " + i, x.trace(i), i < model.trace.size() ? model.trace.get(i) : NONE);
        }
    }

    private void layer() {
        int awake = 0;
        for (int n = 0; n < model.layers.size(); n++) {
            Model.Layer layer = model.layers.get(n);
            due("sort", x.layer(n, 0), List.of("span", "thing", "ask", "ever").indexOf(layer.sort));
            due("rank", x.layer(n, 1), layer.rank);
            due("needs", x.layer(n, 2), Model.bits(layer.needs));
            due("bars", x.layer(n, 3), Model.bits(layer.bars));
            due("awake", x.layer(n, 4), model.awake(n) ? 1 : 0);
            due("open of it", x.layer(n, 5), model.openOf(n));
            awake += model.awake(n) ? 1 : 0;
        }
        due("awake in all", x.count(6), awake);
    }
}
