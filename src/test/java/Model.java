import java.util.ArrayList;
import java.util.Arrays;
import java.util.HashSet;
import java.util.LinkedHashMap;
import java.util.List;
import java.util.Map;
import java.util.Set;
import java.util.TreeSet;
import java.util.regex.Matcher;
import java.util.regex.Pattern;

/**
 * The document written a second time, with the Java library and word by word rather than fast, to
 * be set against WakingLayers. Arguments are taken as good: ModelTest tells it only of such calls.
 */
final class Model {
    static final int FAILS = -1000004;

    static final class Fault extends Exception {
        private static final long serialVersionUID = 1;
        final int place;
        final int number;

        Fault(int place, int number) {
            this.place = place;
            this.number = number;
        }
    }

    private static final class Failure extends Exception {
        private static final long serialVersionUID = 1;
    }

    static final class Layer {
        String sort;
        int rank;
        int fact = -1;
        String sign;
        int bound;
        Set<Integer> needs = new TreeSet<>();
        Set<Integer> bars = new TreeSet<>();
    }

    static final class Body {
        int layer;
        int kind;
        int routine;
        String way;
        List<String[]> acts = new ArrayList<>();
    }

    private static final class Waking {
        final int layer;
        final int thing;
        final long time;

        Waking(int layer, int thing, long time) {
            this.layer = layer;
            this.thing = thing;
            this.time = time;
        }
    }

    List<Integer> kinds = new ArrayList<>();
    List<int[]> things = new ArrayList<>();
    List<Layer> layers = new ArrayList<>();
    List<Body> bodies = new ArrayList<>();
    int[] told = new int[4];
    Set<Integer> found = new HashSet<>();
    List<Integer> ran = new ArrayList<>();
    List<Integer> trace = new ArrayList<>();
    private final List<Waking> open = new ArrayList<>();
    private long time;
    private boolean spent;

    // ---- texts

    private String text;
    private List<String> tokens;
    private List<Integer> places;
    private int at;

    void read(String tape) throws Fault {
        Model kept = new Model();
        kept.kinds.addAll(kinds);
        kept.things.addAll(things);
        kept.layers.addAll(layers);
        kept.bodies.addAll(bodies);
        try {
            scan(tape);
            while (at < tokens.size()) {
                tell();
            }
        } catch (Fault fault) {
            kinds = kept.kinds;
            things = kept.things;
            layers = kept.layers;
            bodies = kept.bodies;
            throw fault;
        }
    }

    private void scan(String tape) {
        text = tape;
        tokens = new ArrayList<>();
        places = new ArrayList<>();
        at = 0;
        Matcher matcher = Pattern.compile("[a-z]+|[0-9]+|[^ \\n]").matcher(tape);
        while (matcher.find()) {
            tokens.add(matcher.group());
            places.add(matcher.start());
        }
    }

    private String look() {
        return at < tokens.size() ? tokens.get(at) : "";
    }

    private Fault fault(int number) {
        return new Fault(at < tokens.size() ? places.get(at) : text.length(), number);
    }

    private String oneOf(String... words) throws Fault {
        String token = look();
        if (token.isEmpty() || !Arrays.asList(words).contains(token)) {
            throw fault(1);
        }
        at++;
        return token;
    }

    private boolean isNumber() {
        return look().matches("[0-9]{1,3}");
    }

    private int number(int limit) throws Fault {
        if (!isNumber()) {
            throw fault(1);
        }
        int n = Integer.parseInt(look());
        if (n >= limit) {
            throw fault(2);
        }
        at++;
        return n;
    }

    private void tell() throws Fault {
        int first = at;
        String word = oneOf("kind", "thing", "layer", "body");
        Map<String, Integer> left = new LinkedHashMap<>();
        left.put("kind", 8 - kinds.size());
        left.put("thing", 8 - things.size());
        left.put("layer", 8 - layers.size());
        left.put("body", 24 - bodies.size());
        if (left.get(word) == 0) {
            throw new Fault(places.get(first), 3);
        }
        switch (word) {
            case "kind" -> tellKind();
            case "thing" -> tellThing();
            case "layer" -> tellLayer();
            default -> tellBody();
        }
    }

    private void tellKind() throws Fault {
        int under = -1;
        if (oneOf("under", ";").equals("under")) {
            under = number(kinds.size());
            oneOf(";");
        }
        kinds.add(under);
    }

    private void tellThing() throws Fault {
        int kind = number(kinds.size());
        int value = number(100);
        oneOf(";");
        things.add(new int[] {kind, value});
    }

    private void tellLayer() throws Fault {
        Layer layer = new Layer();
        layer.sort = oneOf("span", "thing", "ask", "ever");
        layer.rank = number(10);
        if (!layer.sort.equals("ask")) {
            oneOf(";");
        } else {
            if (isNumber()) {
                layer.fact = number(4);
                layer.sign = oneOf("<", ">", "=");
                layer.bound = number(10);
            }
            for (String word = oneOf("need", "bar", ";"); !word.equals(";"); word = oneOf("need", "bar", ";")) {
                (word.equals("need") ? layer.needs : layer.bars).add(number(layers.size()));
            }
        }
        layers.add(layer);
    }

    private void tellBody() throws Fault {
        Body body = new Body();
        body.layer = -1;
        if (look().equals("plain")) {
            at++;
        } else {
            body.layer = number(layers.size());
        }
        body.kind = number(kinds.size());
        body.routine = number(4);
        body.way = oneOf("before", "behind", "around", "instead");
        while (true) {
            int first = at;
            String act = body.way.equals("around") ? oneOf(";", "add", "mul", "own", "proceed", "call", "wake", "fail")
                : oneOf(";", "add", "mul", "own", "call", "wake", "fail");
            if (act.equals(";")) {
                break;
            }
            if (body.acts.size() == 6) {
                throw new Fault(places.get(first), 3);
            }
            body.acts.add(tellAct(act));
        }
        bodies.add(body);
    }

    private String[] tellAct(String act) throws Fault {
        switch (act) {
            case "add":
            case "mul":
                return new String[] {act, "" + number(10)};
            case "call":
                return new String[] {act, "" + number(things.size()), "" + number(4)};
            case "wake":
                int first = at;
                int layer = number(layers.size());
                if (layers.get(layer).sort.startsWith("a") || layers.get(layer).sort.startsWith("e")) {
                    throw new Fault(places.get(first), 2);
                }
                return new String[] {act, "" + layer};
            default:
                return new String[] {act};
        }
    }

    // ---- wakings

    int openCount() {
        return open.size();
    }

    int openOf(int layer) {
        return (int) open.stream().filter(waking -> waking.layer == layer).count();
    }

    boolean awake(int layer) {
        switch (layers.get(layer).sort) {
            case "ever":
                return true;
            case "ask":
                return found.contains(layer);
            default:
                return openOf(layer) > 0;
        }
    }

    private boolean awakeFor(int layer, int thing) {
        return layers.get(layer).sort.equals("thing") ? latest(layer, thing) != null : awake(layer);
    }

    /** Of a 'thing' LAYER for this THING; of a 'span' one for none. */
    private Waking latest(int layer, int thing) {
        Waking latest = null;
        boolean owned = layers.get(layer).sort.equals("thing");
        for (Waking waking : open) {
            if (waking.layer == layer && (!owned || waking.thing == thing)
                && (latest == null || waking.time > latest.time)) {
                latest = waking;
            }
        }
        return latest;
    }

    boolean wake(int layer, int thing) {
        return open.size() < 16 && open.add(new Waking(layer, thing, time++));
    }

    boolean sleep(int layer) {
        Waking latest = null;
        for (Waking waking : open) {
            if (waking.layer == layer && (latest == null || waking.time > latest.time)) {
                latest = waking;
            }
        }
        if (latest == null) {
            return false;
        }
        close(latest);
        return true;
    }

    private void close(Waking waking) {
        open.remove(waking);
        loseThoseThatNeed();
    }

    private void loseThoseThatNeed() {
        boolean changed = true;
        while (changed) {
            changed = found.removeIf(layer -> !layers.get(layer).needs.stream().allMatch(this::awake));
        }
    }

    // ---- points

    int point() {
        return point(told);
    }

    private int point(int[] facts) {
        found.clear();
        for (int n = 0; n < layers.size(); n++) {
            Layer layer = layers.get(n);
            if (layer.sort.equals("ask") && holds(layer, facts) && layer.needs.stream().allMatch(this::awake)) {
                found.add(n);
            }
        }
        Set<Integer> barred = new HashSet<>();
        for (int n : found) {
            barred.addAll(layers.get(n).bars);
        }
        found.removeAll(barred);
        loseThoseThatNeed();
        return bits(found);
    }

    static int bits(Set<Integer> set) {
        return set.stream().mapToInt(n -> 1 << n).sum();
    }

    private static boolean holds(Layer layer, int[] facts) {
        if (layer.fact < 0) {
            return true;
        }
        int sign = Integer.compare(facts[layer.fact], layer.bound);
        return sign == "<=>".indexOf(layer.sign) - 1;
    }

    // ---- calls

    List<Integer> row(int thing, int routine) {
        List<Integer> order = new ArrayList<>();
        for (int n = 0; n < layers.size(); n++) {
            if (awakeFor(n, thing)) {
                order.add(n);
            }
        }
        order.sort((a, b) -> ahead(a, b, thing) ? -1 : 1);
        order.add(-1);
        List<Integer> row = new ArrayList<>();
        for (int layer : order) {
            for (int kind = things.get(thing)[0]; kind >= 0; kind = kinds.get(kind)) {
                for (int n = 0; n < bodies.size(); n++) {
                    Body body = bodies.get(n);
                    if (body.layer == layer && body.kind == kind && body.routine == routine) {
                        row.add(n);
                    }
                }
            }
        }
        for (int n = 0; n < row.size(); n++) {
            if (bodies.get(row.get(n)).way.equals("instead")) {
                return new ArrayList<>(row.subList(0, n + 1));
            }
        }
        return row;
    }

    private boolean ahead(int a, int b, int thing) {
        if (layers.get(a).rank != layers.get(b).rank) {
            return layers.get(a).rank > layers.get(b).rank;
        }
        Waking ofA = latest(a, thing);
        Waking ofB = latest(b, thing);
        if (ofA != null && ofB != null) {
            return ofA.time > ofB.time;
        }
        return ofA == null && ofB == null ? a < b : ofA != null;
    }

    int call(int thing, int routine, int number) {
        ran.clear();
        spent = false;
        try {
            return call(1, thing, routine, number);
        } catch (Failure failure) {
            return FAILS;
        }
    }

    private int call(int depth, int thing, int routine, int number) throws Failure {
        if (depth == 7) {
            spent = true;
            throw new Failure();
        }
        return run(depth, thing, row(thing, routine), number);
    }

    private int run(int depth, int thing, List<Integer> row, int number) throws Failure {
        if (row.isEmpty()) {
            return number;
        }
        if (ran.size() == 60) {
            spent = true;
            throw new Failure();
        }
        ran.add(row.get(0));
        Body body = bodies.get(row.get(0));
        List<Integer> rest = row.subList(1, row.size());
        List<Waking> own = new ArrayList<>();
        try {
            switch (body.way) {
                case "before":
                    return run(depth, thing, rest, acts(body, depth, thing, rest, own, number));
                case "behind":
                    int given;
                    try {
                        given = run(depth, thing, rest, number);
                    } catch (Failure failure) {
                        if (!spent) {
                            acts(body, depth, thing, rest, own, number);
                        }
                        throw failure;
                    }
                    return acts(body, depth, thing, rest, own, given);
                default:
                    return acts(body, depth, thing, rest, own, number);
            }
        } finally {
            own.forEach(this::close);
        }
    }

    private int acts(Body body, int depth, int thing, List<Integer> rest, List<Waking> own, int number) throws Failure {
        long current = number;
        for (String[] act : body.acts) {
            switch (act[0]) {
                case "add" -> current = (current + Integer.parseInt(act[1])) % 1000003;
                case "mul" -> current = current * Integer.parseInt(act[1]) % 1000003;
                case "own" -> current = (current + things.get(thing)[1]) % 1000003;
                case "proceed" -> current = run(depth, thing, rest, (int) current);
                case "call" -> current = call(depth + 1, Integer.parseInt(act[1]), Integer.parseInt(act[2]), (int) current);
                case "wake" -> {
                    if (!wake(Integer.parseInt(act[1]), thing)) {
                        throw new Failure();
                    }
                    own.add(open.get(open.size() - 1));
                }
                default -> throw new Failure();
            }
        }
        return (int) current;
    }

    // ---- the small world

    private static List<int[]> worlds(int m) {
        List<int[]> all = new ArrayList<>();
        for (int a = 0; a <= m; a++) {
            for (int b = 0; b <= m; b++) {
                for (int c = 0; c <= m; c++) {
                    for (int d = 0; d <= m; d++) {
                        all.add(new int[] {a, b, c, d});
                    }
                }
            }
        }
        return all;
    }

    List<Integer> together(int m) {
        Set<Integer> kept = new HashSet<>(found);
        Set<Integer> sets = new TreeSet<>();
        for (int[] facts : worlds(m)) {
            sets.add(point(facts));
        }
        found = kept;
        return new ArrayList<>(sets);
    }

    boolean same(int layer, int thing, int routine, int number, int m) {
        Set<Integer> kept = new HashSet<>(found);
        List<Integer> keptRan = new ArrayList<>(ran);
        boolean same = true;
        for (int[] facts : worlds(m)) {
            point(facts);
            int with = call(thing, routine, number);
            point(facts);
            found.remove(layer);
            loseThoseThatNeed();
            same &= with == call(thing, routine, number);
        }
        found = kept;
        ran = keptRan;
        return same;
    }

    // ---- asks

    int kind(int layer) {
        Layer told = layers.get(layer);
        return switch (told.sort) {
            case "span" -> 1;
            case "thing" -> 2;
            case "ever" -> 5;
            default -> told.needs.isEmpty() ? 3 : 4;
        };
    }

    int ask(int layer, int what) {
        trace.clear();
        return what == 0 ? size(layer) : mark(layer);
    }

    private int size(int layer) {
        return body(new int[] {10, 11, 12, 13, 14, 10}[kind(layer)], layer);
    }

    private int mark(int layer) {
        return body(new int[] {20, 20, 20, 21, 21, 22}[kind(layer)], layer);
    }

    private int body(int number, int layer) {
        trace.add(number);
        return switch (number) {
            case 10 -> layers.get(layer).rank;
            case 11 -> body(10, layer) + openOf(layer);
            case 12 -> 2 * body(11, layer);
            case 13 -> body(10, layer) + mark(layer);
            case 14 -> body(13, layer) + layers.get(layer).needs.size();
            case 20 -> (int) bodies.stream().filter(body -> body.layer == layer).count();
            case 21 -> body(20, layer) + (awake(layer) ? 100 : 0);
            default -> body(20, layer) + size(layer);
        };
    }
}
