/**
 * Programs told in texts whose routines do otherwise while told circumstances hold: layers lay
 * bodies over those of kinds of things, and wake by wakings, by tests on facts and by need.
 */
public final class WakingLayers {
    public static final int NONE = -1000000, BAD = -1000001, STATE = -1000002, FULL = -1000003;

    private static final int FAILS = -1000004;
    private static final int FINDINGS = -1000010;
    private static final int NULL = 1, PLACE = 2, KIND = 3, SIZE = 4, STORE = 5;
    private static final int FAULTS = -1000100;
    private static final int MODULUS = 1000003;
    private static final int ROUTINES = 4;

    private final Sheets sheets;
    private final Tape tape;
    private final Program program;
    private final Reader reader;
    private final Circumstances circumstances;
    private final Rows rows;
    private final int[] shownRow;
    private final Runner runner;
    private final SmallWorld smallWorld;
    private final Asker asker;
    private int latestFinding;

    public WakingLayers() {
        sheets = new Sheets();
        tape = new Tape();
        program = new Program();
        reader = new Reader(tape, program);
        circumstances = new Circumstances(program);
        rows = new Rows(program, circumstances);
        shownRow = new int[Program.MOST_BODIES];
        runner = new Runner(program, circumstances, rows);
        smallWorld = new SmallWorld(program, circumstances, new Runner(program, circumstances, rows));
        asker = new Asker(program, circumstances);
    }

    // ---- sheets

    public int sheet(int sheet, int lane, int n) {
        if (!Sheets.isSheet(sheet) || !Sheets.isLane(lane) || n > Sheets.MOST_ITEMS) {
            return BAD;
        }
        if (n < 0) {
            return finding(SIZE);
        }
        sheets.lay(sheet, lane, n);
        return withoutFinding(n);
    }

    public int set(int sheet, int i, int v) {
        if (!Sheets.isSheet(sheet)) {
            return BAD;
        }
        if (sheets.isMissing(sheet)) {
            return finding(NULL);
        }
        if (!sheets.hasPlaces(sheet, i, 1)) {
            return finding(PLACE);
        }
        return withoutFinding(sheets.put(sheet, i, v));
    }

    public int copy(int a, int i, int b, int j, int n) {
        if (!Sheets.isSheet(a) || !Sheets.isSheet(b)) {
            return BAD;
        }
        if (sheets.isMissing(a) || sheets.isMissing(b)) {
            return finding(NULL);
        }
        if (!sheets.haveOneLane(a, b)) {
            return finding(STORE);
        }
        if (!sheets.hasPlaces(a, i, n) || !sheets.hasPlaces(b, j, n)) {
            return finding(PLACE);
        }
        sheets.move(a, i, b, j, n);
        return withoutFinding(n);
    }

    public int drop(int sheet) {
        if (!Sheets.isSheet(sheet)) {
            return BAD;
        }
        if (sheets.isMissing(sheet)) {
            return finding(NULL);
        }
        return withoutFinding(sheets.lose(sheet));
    }

    // ---- texts

    public int feed(long w, int n) {
        if (n < 1 || n > Tape.MOST_AT_ONCE) {
            return BAD;
        }
        if (!tape.hasRoom(n)) {
            return FULL;
        }
        return tape.append(w, n);
    }

    public int read() {
        int place = reader.readTape();
        return place < 0 ? program.bodyCount : FAULTS - place;
    }

    public int fault() {
        return reader.latestFault();
    }

    public int layer(int layer, int what) {
        if (!program.isLayer(layer)) {
            return BAD;
        }
        Layer told = program.layers[layer];
        switch (what) {
            case 0:
                return told.sort;
            case 1:
                return told.rank;
            case 2:
                return told.needs;
            case 3:
                return told.bars;
            case 4:
                return circumstances.isAwake(layer) ? 1 : 0;
            case 5:
                return circumstances.openOf(layer);
            default:
                return BAD;
        }
    }

    // ---- facts, wakings

    public int fact(int fact, int v) {
        if (fact < 0 || fact >= Circumstances.FACTS || !Circumstances.isFactValue(v)) {
            return BAD;
        }
        return circumstances.tell(fact, v);
    }

    public int facts(int sheet, int i, int n) {
        if (!Sheets.isSheet(sheet) || n < 1 || n > Circumstances.FACTS) {
            return BAD;
        }
        if (sheets.isMissing(sheet)) {
            return finding(NULL);
        }
        if (!sheets.hasPlaces(sheet, i, n)) {
            return finding(PLACE);
        }
        for (int k = 0; k < n; k++) {
            if (!Circumstances.isFactValue(sheets.item(sheet, i + k))) {
                return BAD;
            }
        }
        for (int k = 0; k < n; k++) {
            circumstances.tell(k, sheets.item(sheet, i + k));
        }
        return withoutFinding(n);
    }

    public int point() {
        return circumstances.takePoint();
    }

    public int wake(int layer, int thing) {
        if (!program.isLayer(layer) || !program.layers[layer].isWoken()) {
            return BAD;
        }
        boolean owned = program.layers[layer].sort == Layer.THING;
        if (owned ? !program.isThing(thing) : thing != NONE) {
            return BAD;
        }
        return circumstances.openWaking(layer, thing) ? circumstances.openCount() : FULL;
    }

    public int sleep(int layer) {
        if (!program.isLayer(layer)) {
            return BAD;
        }
        return circumstances.closeLatest(layer) ? circumstances.openCount() : STATE;
    }

    // ---- calls

    public int row(int thing, int routine, int i) {
        if (!program.isThing(thing) || !isRoutine(routine) || i < -1) {
            return BAD;
        }
        int length = rows.fill(shownRow, thing, routine);
        if (i == -1) {
            return length;
        }
        return i < length ? shownRow[i] : NONE;
    }

    public int call(int thing, int routine, int number) {
        if (!isCall(thing, routine, number)) {
            return BAD;
        }
        return runner.callOutermost(thing, routine, number);
    }

    public int ran(int i) {
        if (i == -1) {
            return runner.begunCount();
        }
        return runner.begunAt(i);
    }

    public int together(int m, int i) {
        if (!SmallWorld.isGreatest(m) || i < -1) {
            return BAD;
        }
        int count = smallWorld.gather(m);
        return i == -1 ? count : smallWorld.gatheredAt(i);
    }

    public int same(int layer, int thing, int routine, int number, int m) {
        if (!program.isLayer(layer) || program.layers[layer].sort != Layer.ASK) {
            return BAD;
        }
        if (!isCall(thing, routine, number) || !SmallWorld.isGreatest(m)) {
            return BAD;
        }
        smallWorld.gather(m);
        return smallWorld.changesNothing(layer, thing, routine, number) ? 1 : 0;
    }

    // ---- asked

    public int kind(int layer) {
        return program.isLayer(layer) ? Asker.kindOf(program.layers[layer]) : BAD;
    }

    public int as(int layer, int kind) {
        if (!program.isLayer(layer) || !Asker.isKind(kind)) {
            return BAD;
        }
        if (!Asker.isOne(Asker.kindOf(program.layers[layer]), kind)) {
            return finding(KIND);
        }
        return withoutFinding(program.layers[layer].rank);
    }

    public int ask(int layer, int what) {
        if (!program.isLayer(layer) || !Asker.isAsk(what)) {
            return BAD;
        }
        asker.clearTrace();
        return what == Asker.SIZE_ASK ? asker.sizeOf(layer) : asker.markOf(layer);
    }

    public int trace(int i) {
        return asker.tracedAt(i);
    }

    public int count(int what) {
        switch (what) {
            case 0:
                return sheets.laidCount();
            case 1:
                return program.kindCount;
            case 2:
                return program.thingCount;
            case 3:
                return program.layerCount;
            case 4:
                return program.bodyCount;
            case 5:
                return circumstances.openCount();
            case 6:
                return Integer.bitCount(circumstances.awakeSet());
            case 7:
                return tape.length();
            default:
                return BAD;
        }
    }

    public int status() {
        return latestFinding;
    }

    private int finding(int number) {
        latestFinding = number;
        return FINDINGS - number;
    }

    private int withoutFinding(int answer) {
        latestFinding = 0;
        return answer;
    }

    private boolean isCall(int thing, int routine, int number) {
        return program.isThing(thing) && isRoutine(routine) && number >= 0 && number < MODULUS;
    }

    private static boolean isRoutine(int routine) {
        return routine >= 0 && routine < ROUTINES;
    }

    /** The SHEETS, whose rows are made once and used again. */
    private static final class Sheets {
        static final int MOST_ITEMS = 40;
        private static final int SHEETS = 8;
        private static final int BYTES = 0, SHORTS = 1, INTS = 2;

        private final boolean[] laid = new boolean[SHEETS];
        private final int[] lanes = new int[SHEETS];
        private final int[] lengths = new int[SHEETS];
        private final int[][] items = new int[SHEETS][MOST_ITEMS];

        static boolean isSheet(int sheet) {
            return sheet >= 0 && sheet < SHEETS;
        }

        static boolean isLane(int lane) {
            return lane >= BYTES && lane <= INTS;
        }

        boolean isMissing(int sheet) {
            return !laid[sheet];
        }

        boolean haveOneLane(int a, int b) {
            return lanes[a] == lanes[b];
        }

        boolean hasPlaces(int sheet, int i, int n) {
            int length = lengths[sheet];
            return i >= 0 && n >= 0 && i <= length && n <= length - i;
        }

        void lay(int sheet, int lane, int n) {
            laid[sheet] = true;
            lanes[sheet] = lane;
            lengths[sheet] = n;
            for (int i = 0; i < n; i++) {
                items[sheet][i] = 0;
            }
        }

        int put(int sheet, int i, int v) {
            int kept = v;
            if (lanes[sheet] == BYTES) {
                kept = (byte) v;
            } else if (lanes[sheet] == SHORTS) {
                kept = (short) v;
            }
            items[sheet][i] = kept;
            return kept;
        }

        int item(int sheet, int i) {
            return items[sheet][i];
        }

        void move(int a, int i, int b, int j, int n) {
            System.arraycopy(items[a], i, items[b], j, n);
        }

        int lose(int sheet) {
            laid[sheet] = false;
            return lengths[sheet];
        }

        int laidCount() {
            int count = 0;
            for (int sheet = 0; sheet < SHEETS; sheet++) {
                if (laid[sheet]) {
                    count++;
                }
            }
            return count;
        }
    }

    /** THE TAPE, and the TOKEN on it that is looked at. */
    private static final class Tape {
        static final int MOST_BYTES = 600;
        static final int MOST_AT_ONCE = 8;
        private static final int MOST_FIGURES = 3;
        private static final int MOST_WORDS = 8;
        private static final int NO_TOKEN = 0, NAME = 1, NUMBER = 2, SIGN = 3, END = 4;

        private final int[] bytes = new int[MOST_BYTES];
        private int length;
        private int sort;
        private int start;
        private int end;
        private int value;

        int length() {
            return length;
        }

        boolean hasRoom(int n) {
            return n <= MOST_BYTES - length;
        }

        int append(long w, int n) {
            for (int k = n - 1; k >= 0; k--) {
                bytes[length] = (int) (w >>> (8 * k)) & 255;
                length++;
            }
            return length;
        }

        void clear() {
            length = 0;
        }

        void firstToken() {
            end = 0;
            nextToken();
        }

        void nextToken() {
            start = end;
            while (start < length && (bytes[start] == ' ' || bytes[start] == '\n')) {
                start++;
            }
            if (start >= length) {
                sort = END;
                return;
            }
            sort = sortOf(bytes[start]);
            if (sort == NAME) {
                end = endOfRun('a', 'z');
            } else if (sort == NUMBER) {
                end = endOfRun('0', '9');
                valueNumber();
            } else {
                end = start + 1;
            }
        }

        private static int sortOf(int first) {
            if (first >= 'a' && first <= 'z') {
                return NAME;
            }
            if (first >= '0' && first <= '9') {
                return NUMBER;
            }
            boolean sign = first == ';' || first == '<' || first == '>' || first == '=';
            return sign ? SIGN : NO_TOKEN;
        }

        private int endOfRun(char least, char greatest) {
            int at = start;
            while (at < length && bytes[at] >= least && bytes[at] <= greatest) {
                at++;
            }
            return at;
        }

        private void valueNumber() {
            if (end - start > MOST_FIGURES) {
                sort = NO_TOKEN;
                return;
            }
            value = 0;
            for (int at = start; at < end; at++) {
                value = value * 10 + bytes[at] - '0';
            }
        }

        int tokenStart() {
            return start;
        }

        boolean atEnd() {
            return sort == END;
        }

        boolean atNumber() {
            return sort == NUMBER;
        }

        int number() {
            return value;
        }

        boolean atSign(char sign) {
            return sort == SIGN && bytes[start] == sign;
        }

        boolean atName(String word) {
            return sort == NAME && end - start == word.length() && matches(word, 0);
        }

        /** Which of some words, told with one blank between, the TOKEN is; -1: none of them. */
        int nameAmong(String words) {
            int from = 0;
            for (int n = 0; n < MOST_WORDS && sort == NAME && from < words.length(); n++) {
                int to = from;
                while (to < words.length() && words.charAt(to) != ' ') {
                    to++;
                }
                if (to - from == end - start && matches(words, from)) {
                    return n;
                }
                from = to + 1;
            }
            return -1;
        }

        private boolean matches(String text, int from) {
            for (int k = 0; k < end - start; k++) {
                if (bytes[start + k] != text.charAt(from + k)) {
                    return false;
                }
            }
            return true;
        }
    }

    /**
     * Reads the tape's text into the program. The first FAULT stays: behind it no TOKEN is taken
     * any more, so the rules below need not look for it at every step.
     */
    private static final class Reader {
        private static final int CANNOT_STAND = 1, NOT_AS_TOLD = 2, NO_ROOM = 3;
        private static final String TELLINGS = "kind thing layer body";
        private static final String SORTS = "span thing ask ever";
        private static final String WAYS = "before behind around instead";
        private static final String ACTS = "add mul own proceed call wake fail";

        private final Tape tape;
        private final Program program;
        private boolean faulty;
        private int faultPlace;
        private int faultNumber;

        Reader(Tape tape, Program program) {
            this.tape = tape;
            this.program = program;
        }

        int latestFault() {
            return faultNumber;
        }

        /** The place of the first FAULT; -1: there is none, and all has come. */
        int readTape() {
            faulty = false;
            program.keepCounts();
            tape.firstToken();
            for (int n = 0; n < Tape.MOST_BYTES && !faulty && !tape.atEnd(); n++) {
                readTelling();
            }
            if (faulty) {
                program.restoreCounts();
            }
            tape.clear();
            return faulty ? faultPlace : -1;
        }

        private void readTelling() {
            switch (tape.nameAmong(TELLINGS)) {
                case 0:
                    readKind();
                    break;
                case 1:
                    readThing();
                    break;
                case 2:
                    readLayer();
                    break;
                case 3:
                    readBody();
                    break;
                default:
                    refuse(CANNOT_STAND);
                    break;
            }
        }

        private void readKind() {
            takeFirstWord(program.kindCount, Program.MOST_KINDS);
            int under = Program.NO_KIND;
            if (!faulty && tape.atName("under")) {
                tape.nextToken();
                under = takeNumber(program.kindCount);
            }
            takeSign(';');
            if (!faulty) {
                program.addKind(under);
            }
        }

        private void readThing() {
            takeFirstWord(program.thingCount, Program.MOST_THINGS);
            int kind = takeNumber(program.kindCount);
            int value = takeNumber(100);
            takeSign(';');
            if (!faulty) {
                program.addThing(kind, value);
            }
        }

        private void readLayer() {
            takeFirstWord(program.layerCount, Program.MOST_LAYERS);
            if (faulty) {
                return;
            }
            Layer layer = program.layers[program.layerCount];
            int sort = takeWord(SORTS);
            int rank = takeNumber(10);
            layer.begin(sort, rank);
            if (sort == Layer.ASK && !faulty && tape.atNumber()) {
                readTest(layer);
            }
            if (sort == Layer.ASK) {
                readNeedsAndBars(layer);
            }
            takeSign(';');
            if (!faulty) {
                program.layerCount++;
            }
        }

        private void readTest(Layer layer) {
            int fact = takeNumber(Circumstances.FACTS);
            char sign = '=';
            if (tape.atSign('<')) {
                sign = '<';
            } else if (tape.atSign('>')) {
                sign = '>';
            }
            takeSign(sign);
            layer.beginTest(fact, sign, takeNumber(Circumstances.FACT_VALUES));
        }

        private void readNeedsAndBars(Layer layer) {
            for (int n = 0; n < Tape.MOST_BYTES && !faulty; n++) {
                if (tape.atName("need")) {
                    tape.nextToken();
                    layer.needs |= 1 << takeNumber(program.layerCount);
                } else if (tape.atName("bar")) {
                    tape.nextToken();
                    layer.bars |= 1 << takeNumber(program.layerCount);
                } else {
                    break;
                }
            }
        }

        private void readBody() {
            takeFirstWord(program.bodyCount, Program.MOST_BODIES);
            if (faulty) {
                return;
            }
            Body body = program.bodies[program.bodyCount];
            int layer = takeOwner();
            int kind = takeNumber(program.kindCount);
            int routine = takeNumber(ROUTINES);
            int way = takeWord(WAYS);
            body.begin(layer, kind, routine, way);
            for (int n = 0; n <= Body.MOST_ACTS && !faulty && !tape.atSign(';'); n++) {
                readAct(body);
            }
            takeSign(';');
            if (!faulty) {
                program.bodyCount++;
            }
        }

        private void readAct(Body body) {
            int act = tape.nameAmong(ACTS);
            if (act < 0 || act == Body.PROCEED && body.way != Body.AROUND) {
                refuse(CANNOT_STAND);
            } else if (body.actCount >= Body.MOST_ACTS) {
                refuse(NO_ROOM);
            } else {
                tape.nextToken();
                int first = 0;
                int second = 0;
                if (act == Body.ADD || act == Body.MUL) {
                    first = takeNumber(10);
                } else if (act == Body.CALL) {
                    first = takeNumber(program.thingCount);
                    second = takeNumber(ROUTINES);
                } else if (act == Body.WAKE) {
                    refuseUnwoken();
                    first = takeNumber(program.layerCount);
                }
                body.addAct(act, first, second);
            }
        }

        private void takeFirstWord(int count, int most) {
            if (count >= most) {
                refuse(NO_ROOM);
            } else {
                tape.nextToken();
            }
        }

        private int takeOwner() {
            if (!tape.atName("plain")) {
                return takeNumber(program.layerCount);
            }
            tape.nextToken();
            return Body.PLAIN;
        }

        private void refuseUnwoken() {
            if (tape.atNumber() && program.isLayer(tape.number()) && !program.layers[tape.number()].isWoken()) {
                refuse(NOT_AS_TOLD);
            }
        }

        /** The NUMBER, if it is below the limit; else, or behind a FAULT, 0. */
        private int takeNumber(int limit) {
            if (faulty) {
                return 0;
            }
            if (!tape.atNumber()) {
                refuse(CANNOT_STAND);
                return 0;
            }
            int number = tape.number();
            if (number >= limit) {
                refuse(NOT_AS_TOLD);
                return 0;
            }
            tape.nextToken();
            return number;
        }

        private int takeWord(String words) {
            int word = faulty ? -1 : tape.nameAmong(words);
            if (word < 0) {
                refuse(CANNOT_STAND);
                return 0;
            }
            tape.nextToken();
            return word;
        }

        private void takeSign(char sign) {
            if (faulty) {
                return;
            }
            if (tape.atSign(sign)) {
                tape.nextToken();
            } else {
                refuse(CANNOT_STAND);
            }
        }

        private void refuse(int number) {
            if (!faulty) {
                faulty = true;
                faultNumber = number;
                faultPlace = tape.tokenStart();
            }
        }
    }

    /** All that texts have told. What stands behind the counts is free, and written over. */
    private static final class Program {
        static final int MOST_KINDS = 8, MOST_THINGS = 8, MOST_LAYERS = 8, MOST_BODIES = 24;
        static final int NO_KIND = -1;

        final int[] kindUnder = new int[MOST_KINDS];
        final int[] thingKind = new int[MOST_THINGS];
        final int[] thingValue = new int[MOST_THINGS];
        final Layer[] layers = new Layer[MOST_LAYERS];
        final Body[] bodies = new Body[MOST_BODIES];
        int kindCount;
        int thingCount;
        int layerCount;
        int bodyCount;
        private int keptKinds;
        private int keptThings;
        private int keptLayers;
        private int keptBodies;

        Program() {
            for (int n = 0; n < MOST_LAYERS; n++) {
                layers[n] = new Layer();
            }
            for (int n = 0; n < MOST_BODIES; n++) {
                bodies[n] = new Body();
            }
        }

        boolean isThing(int thing) {
            return thing >= 0 && thing < thingCount;
        }

        boolean isLayer(int layer) {
            return layer >= 0 && layer < layerCount;
        }

        void addKind(int under) {
            kindUnder[kindCount] = under;
            kindCount++;
        }

        void addThing(int kind, int value) {
            thingKind[thingCount] = kind;
            thingValue[thingCount] = value;
            thingCount++;
        }

        void keepCounts() {
            keptKinds = kindCount;
            keptThings = thingCount;
            keptLayers = layerCount;
            keptBodies = bodyCount;
        }

        void restoreCounts() {
            kindCount = keptKinds;
            thingCount = keptThings;
            layerCount = keptLayers;
            bodyCount = keptBodies;
        }

        int bodiesOf(int layer) {
            int count = 0;
            for (int n = 0; n < bodyCount; n++) {
                if (bodies[n].layer == layer) {
                    count++;
                }
            }
            return count;
        }
    }

    /** A LAYER as it is told; what it needs and bars are sets, as bits. */
    private static final class Layer {
        static final int SPAN = 0, THING = 1, ASK = 2, EVER = 3;

        int sort;
        int rank;
        int needs;
        int bars;
        private boolean tested;
        private int testFact;
        private char testSign;
        private int testBound;

        void begin(int itsSort, int itsRank) {
            sort = itsSort;
            rank = itsRank;
            needs = 0;
            bars = 0;
            tested = false;
        }

        void beginTest(int fact, char sign, int bound) {
            tested = true;
            testFact = fact;
            testSign = sign;
            testBound = bound;
        }

        boolean isWoken() {
            return sort == SPAN || sort == THING;
        }

        boolean testHolds(int[] facts) {
            if (!tested) {
                return true;
            }
            int fact = facts[testFact];
            if (testSign == '<') {
                return fact < testBound;
            }
            return testSign == '>' ? fact > testBound : fact == testBound;
        }
    }

    /** A BODY as it is told: of a LAYER or plain, for a KIND and a ROUTINE. */
    private static final class Body {
        static final int PLAIN = -1;
        static final int BEFORE = 0, BEHIND = 1, AROUND = 2, INSTEAD = 3;
        static final int ADD = 0, MUL = 1, OWN = 2, PROCEED = 3, CALL = 4, WAKE = 5, FAIL = 6;
        static final int MOST_ACTS = 6;

        final int[] acts = new int[MOST_ACTS];
        final int[] firstNumbers = new int[MOST_ACTS];
        final int[] secondNumbers = new int[MOST_ACTS];
        int actCount;
        int layer;
        int way;
        private int kind;
        private int routine;

        void begin(int itsLayer, int itsKind, int itsRoutine, int itsWay) {
            layer = itsLayer;
            kind = itsKind;
            routine = itsRoutine;
            way = itsWay;
            actCount = 0;
        }

        void addAct(int act, int first, int second) {
            acts[actCount] = act;
            firstNumbers[actCount] = first;
            secondNumbers[actCount] = second;
            actCount++;
        }

        boolean isFor(int aKind, int aRoutine) {
            return kind == aKind && routine == aRoutine;
        }
    }

    /** FACTS as they are told, the open WAKINGS from the oldest on, and which LAYERS are FOUND. */
    private static final class Circumstances {
        static final int FACTS = 4;
        static final int FACT_VALUES = 10;
        private static final int MOST_OPEN = 16;

        private final Program program;
        private final int[] told = new int[FACTS];
        private final int[] wokenLayers = new int[MOST_OPEN];
        private final int[] wokenThings = new int[MOST_OPEN];
        private int open;
        private int found;

        Circumstances(Program program) {
            this.program = program;
        }

        static boolean isFactValue(int v) {
            return v >= 0 && v < FACT_VALUES;
        }

        int tell(int fact, int v) {
            int before = told[fact];
            told[fact] = v;
            return before;
        }

        int openCount() {
            return open;
        }

        int openOf(int layer) {
            int count = 0;
            for (int n = 0; n < open; n++) {
                if (wokenLayers[n] == layer) {
                    count++;
                }
            }
            return count;
        }

        boolean openWaking(int layer, int thing) {
            if (open >= MOST_OPEN) {
                return false;
            }
            wokenLayers[open] = layer;
            wokenThings[open] = thing;
            open++;
            return true;
        }

        boolean closeLatest(int layer) {
            int at = open - 1;
            while (at >= 0 && wokenLayers[at] != layer) {
                at--;
            }
            if (at < 0) {
                return false;
            }
            for (int n = at; n < open - 1; n++) {
                wokenLayers[n] = wokenLayers[n + 1];
                wokenThings[n] = wokenThings[n + 1];
            }
            open--;
            found = settled(found);
            return true;
        }

        void closeDownTo(int count) {
            if (open > count) {
                open = count;
                found = settled(found);
            }
        }

        /** The place of the latest open WAKING of a LAYER for a THING (or for none); -1: none. */
        int latestOpen(int layer, int thing) {
            for (int at = open - 1; at >= 0; at--) {
                boolean fits = wokenThings[at] == NONE || wokenThings[at] == thing;
                if (fits && wokenLayers[at] == layer) {
                    return at;
                }
            }
            return -1;
        }

        boolean isFound(int layer) {
            return (found >> layer & 1) == 1;
        }

        int foundSet() {
            return found;
        }

        void setFound(int set) {
            found = set;
        }

        int awakeSet() {
            return awakeUnasked() | found;
        }

        boolean isAwake(int layer) {
            return (awakeSet() >> layer & 1) == 1;
        }

        private int awakeUnasked() {
            int set = 0;
            for (int n = 0; n < open; n++) {
                set |= 1 << wokenLayers[n];
            }
            for (int n = 0; n < program.layerCount; n++) {
                if (program.layers[n].sort == Layer.EVER) {
                    set |= 1 << n;
                }
            }
            return set;
        }

        int takePoint() {
            found = foundAtPoint(told);
            return found;
        }

        /** The set of LAYERS that a POINT finds if these FACTS are told. */
        int foundAtPoint(int[] facts) {
            int awake = awakeUnasked();
            int set = 0;
            int barred = 0;
            for (int n = 0; n < program.layerCount; n++) {
                Layer layer = program.layers[n];
                if (layer.sort == Layer.ASK && layer.testHolds(facts) && (layer.needs & ~(awake | set)) == 0) {
                    set |= 1 << n;
                    barred |= layer.bars;
                }
            }
            return settled(set & ~barred);
        }

        /** A FOUND set less those that need one not AWAKE: needs are earlier LAYERS, so one way up is enough. */
        int settled(int set) {
            int awake = awakeUnasked();
            int left = set;
            for (int n = 0; n < program.layerCount; n++) {
                if ((program.layers[n].needs & ~(awake | left)) != 0) {
                    left &= ~(1 << n);
                }
            }
            return left;
        }
    }

    /** Works out THE ROW of a call. */
    private static final class Rows {
        private static final int NOT_AWAKE = -1;

        private final Program program;
        private final Circumstances circumstances;
        private final int[] weights = new int[Program.MOST_LAYERS];
        private final int[] fitting = new int[Program.MOST_BODIES];
        private int fittingCount;

        Rows(Program program, Circumstances circumstances) {
            this.program = program;
            this.circumstances = circumstances;
        }

        /** Puts the numbers of THE ROW's bodies into a row that has room for all BODIES: how many. */
        int fill(int[] row, int thing, int routine) {
            gatherFitting(program.thingKind[thing], routine);
            if (fittingCount == 0) {
                return 0;
            }
            for (int n = 0; n < program.layerCount; n++) {
                weights[n] = weight(n, thing);
            }
            int length = 0;
            for (int n = 0; n < program.layerCount; n++) {
                int layer = takeHeaviest();
                if (layer >= 0) {
                    length = addBodies(row, length, layer);
                }
            }
            return addBodies(row, length, Body.PLAIN);
        }

        /** Heavier LAYERS come first: by rank, then by WAKING (8 to 23), then by number (7 to 0). */
        private int weight(int layer, int thing) {
            Layer told = program.layers[layer];
            if (told.isWoken()) {
                int latest = circumstances.latestOpen(layer, thing);
                return latest < 0 ? NOT_AWAKE : told.rank * 32 + Program.MOST_LAYERS + latest;
            }
            if (told.sort == Layer.ASK && !circumstances.isFound(layer)) {
                return NOT_AWAKE;
            }
            return told.rank * 32 + Program.MOST_LAYERS - 1 - layer;
        }

        private int takeHeaviest() {
            int heaviest = -1;
            int most = NOT_AWAKE;
            for (int n = 0; n < program.layerCount; n++) {
                if (weights[n] > most) {
                    most = weights[n];
                    heaviest = n;
                }
            }
            if (heaviest >= 0) {
                weights[heaviest] = NOT_AWAKE;
            }
            return heaviest;
        }

        /** All BODIES of a ROUTINE by KINDS from one up, whatever LAYER they are of. */
        private void gatherFitting(int ownKind, int routine) {
            fittingCount = 0;
            int kind = ownKind;
            for (int up = 0; up < Program.MOST_KINDS && kind != Program.NO_KIND; up++) {
                for (int n = 0; n < program.bodyCount; n++) {
                    if (program.bodies[n].isFor(kind, routine)) {
                        fitting[fittingCount] = n;
                        fittingCount++;
                    }
                }
                kind = program.kindUnder[kind];
            }
        }

        private int addBodies(int[] row, int length, int layer) {
            int longer = length;
            for (int n = 0; n < fittingCount && !isEnded(row, longer); n++) {
                if (program.bodies[fitting[n]].layer == layer) {
                    row[longer] = fitting[n];
                    longer++;
                }
            }
            return longer;
        }

        private boolean isEnded(int[] row, int length) {
            return length > 0 && program.bodies[row[length - 1]].way == Body.INSTEAD;
        }
    }

    /**
     * Runs calls. A number below 0 (FAILS) is a FAILURE on its way up. The 60 bodies and 6 calls
     * that the document allows keep the recursion low.
     */
    private static final class Runner {
        private static final int MOST_BEGUN = 60, MOST_SHOWN = 40, DEEPEST = 6;

        private final Program program;
        private final Circumstances circumstances;
        private final Rows rows;
        private final int[][] rowAt = new int[DEEPEST][Program.MOST_BODIES];
        private final int[] rowLengthAt = new int[DEEPEST];
        private final int[] thingAt = new int[DEEPEST];
        private final int[] begun = new int[MOST_SHOWN];
        private int begunCount;
        private boolean spent;

        Runner(Program program, Circumstances circumstances, Rows rows) {
            this.program = program;
            this.circumstances = circumstances;
            this.rows = rows;
        }

        int begunCount() {
            return begunCount;
        }

        int begunAt(int i) {
            return i >= 0 && i < begunCount && i < MOST_SHOWN ? begun[i] : NONE;
        }

        int callOutermost(int thing, int routine, int number) {
            begunCount = 0;
            spent = false;
            return callAt(0, thing, routine, number);
        }

        private int callAt(int depth, int thing, int routine, int number) {
            if (depth >= DEEPEST) {
                spent = true;
                return FAILS;
            }
            thingAt[depth] = thing;
            rowLengthAt[depth] = rows.fill(rowAt[depth], thing, routine);
            return runFrom(depth, 0, number);
        }

        /** Runs the body at a place of the row of the call at a depth. */
        private int runFrom(int depth, int place, int number) {
            if (place >= rowLengthAt[depth]) {
                return number;
            }
            if (begunCount >= MOST_BEGUN) {
                spent = true;
                return FAILS;
            }
            noteBegun(rowAt[depth][place]);
            int openAhead = circumstances.openCount();
            int given;
            switch (program.bodies[rowAt[depth][place]].way) {
                case Body.BEFORE:
                    given = doActs(depth, place, number);
                    given = given < 0 ? given : runFrom(depth, place + 1, given);
                    break;
                case Body.BEHIND:
                    given = runBehind(depth, place, number);
                    break;
                default:
                    given = doActs(depth, place, number);
                    break;
            }
            circumstances.closeDownTo(openAhead);
            return given;
        }

        private int runBehind(int depth, int place, int number) {
            int given = runFrom(depth, place + 1, number);
            if (given >= 0) {
                return doActs(depth, place, given);
            }
            if (!spent) {
                doActs(depth, place, number);
            }
            return FAILS;
        }

        private void noteBegun(int body) {
            if (begunCount < MOST_SHOWN) {
                begun[begunCount] = body;
            }
            begunCount++;
        }

        private int doActs(int depth, int place, int number) {
            Body body = program.bodies[rowAt[depth][place]];
            int current = number;
            for (int n = 0; n < body.actCount && current >= 0; n++) {
                current = doAct(body, n, depth, place, current);
            }
            return current;
        }

        private int doAct(Body body, int n, int depth, int place, int number) {
            int first = body.firstNumbers[n];
            switch (body.acts[n]) {
                case Body.ADD:
                    return (number + first) % MODULUS;
                case Body.MUL:
                    return number * first % MODULUS;
                case Body.OWN:
                    return (number + program.thingValue[thingAt[depth]]) % MODULUS;
                case Body.PROCEED:
                    return runFrom(depth, place + 1, number);
                case Body.CALL:
                    return callAt(depth + 1, first, body.secondNumbers[n], number);
                case Body.WAKE:
                    return circumstances.openWaking(first, wokenThing(first, depth)) ? number : FAILS;
                default:
                    return FAILS;
            }
        }

        private int wokenThing(int layer, int depth) {
            return program.layers[layer].sort == Layer.THING ? thingAt[depth] : NONE;
        }
    }

    /** The small world of TOGETHER and SAME: the sets that its POINTS find, gathered for a call. */
    private static final class SmallWorld {
        private static final int SETS = 256;

        private final Program program;
        private final Circumstances circumstances;
        private final Runner runner;
        private final int[] facts = new int[Circumstances.FACTS];
        private final boolean[] gathered = new boolean[SETS];

        SmallWorld(Program program, Circumstances circumstances, Runner runner) {
            this.program = program;
            this.circumstances = circumstances;
            this.runner = runner;
        }

        static boolean isGreatest(int m) {
            return m >= 1 && m <= 3;
        }

        /** Gathers the sets of a world with FACTS of 0 to m: how many there are. */
        int gather(int m) {
            for (int set = 0; set < SETS; set++) {
                gathered[set] = false;
            }
            int count = 0;
            int worlds = (m + 1) * (m + 1) * (m + 1) * (m + 1);
            for (int n = 0; n < worlds; n++) {
                int set = circumstances.foundAtPoint(factsOfWorld(n, m));
                if (!gathered[set]) {
                    gathered[set] = true;
                    count++;
                }
            }
            return count;
        }

        private int[] factsOfWorld(int world, int m) {
            int rest = world;
            for (int fact = 0; fact < Circumstances.FACTS; fact++) {
                facts[fact] = rest % (m + 1);
                rest = rest / (m + 1);
            }
            return facts;
        }

        int gatheredAt(int i) {
            int left = i;
            for (int set = 0; set < SETS; set++) {
                if (gathered[set]) {
                    if (left == 0) {
                        return set;
                    }
                    left--;
                }
            }
            return NONE;
        }

        /** Whether the call answers the same in every gathered set with the LAYER and without it. */
        boolean changesNothing(int layer, int thing, int routine, int number) {
            int foundAhead = circumstances.foundSet();
            int bit = 1 << layer;
            boolean same = true;
            for (int set = 0; set < SETS && same; set++) {
                if (gathered[set] && (set & bit) != 0) {
                    circumstances.setFound(set);
                    int with = runner.callOutermost(thing, routine, number);
                    circumstances.setFound(circumstances.settled(set & ~bit));
                    int without = runner.callOutermost(thing, routine, number);
                    same = with == without;
                }
            }
            circumstances.setFound(foundAhead);
            return same;
        }
    }

    /**
     * The KINDS of LAYERS, and the ASKS with the BODIES that are theirs. SIZE and MARK ask for one
     * another, but of no LAYER in a round: only ASKED ones go from SIZE to MARK, only EVER ones back.
     */
    private static final class Asker {
        static final int SIZE_ASK = 0, MARK_ASK = 1;
        private static final int ANY = 0, SPANNED = 1, OWNED = 2, ASKED = 3, NEEDING = 4, EVER = 5;
        private static final int NO_KIND = -1;
        private static final int[] ABOVE = {NO_KIND, ANY, SPANNED, ANY, ASKED, ANY};
        private static final int MOST_TRACED = 16;

        private final Program program;
        private final Circumstances circumstances;
        private final int[] traced = new int[MOST_TRACED];
        private int tracedCount;

        Asker(Program program, Circumstances circumstances) {
            this.program = program;
            this.circumstances = circumstances;
        }

        static boolean isKind(int kind) {
            return kind >= ANY && kind <= EVER;
        }

        static boolean isAsk(int what) {
            return what == SIZE_ASK || what == MARK_ASK;
        }

        static int kindOf(Layer layer) {
            switch (layer.sort) {
                case Layer.SPAN:
                    return SPANNED;
                case Layer.THING:
                    return OWNED;
                case Layer.ASK:
                    return layer.needs == 0 ? ASKED : NEEDING;
                default:
                    return EVER;
            }
        }

        static boolean isOne(int kind, int wanted) {
            int at = kind;
            for (int up = 0; up < ABOVE.length && at != NO_KIND && at != wanted; up++) {
                at = ABOVE[at];
            }
            return at == wanted;
        }

        int tracedAt(int i) {
            return i >= 0 && i < tracedCount ? traced[i] : NONE;
        }

        void clearTrace() {
            tracedCount = 0;
        }

        int sizeOf(int layer) {
            switch (kindOf(program.layers[layer])) {
                case SPANNED:
                    return sizeOfSpanned(layer);
                case OWNED:
                    return sizeOfOwned(layer);
                case ASKED:
                    return sizeOfAsked(layer);
                case NEEDING:
                    return sizeOfNeeding(layer);
                default:
                    return lentSize(layer);
            }
        }

        int markOf(int layer) {
            switch (kindOf(program.layers[layer])) {
                case ASKED:
                case NEEDING:
                    return markOfAsked(layer);
                case EVER:
                    return markOfEver(layer);
                default:
                    return lentMark(layer);
            }
        }

        private int lentSize(int layer) {
            leave(10);
            return program.layers[layer].rank;
        }

        private int sizeOfSpanned(int layer) {
            leave(11);
            return lentSize(layer) + circumstances.openOf(layer);
        }

        private int sizeOfOwned(int layer) {
            leave(12);
            return 2 * sizeOfSpanned(layer);
        }

        private int sizeOfAsked(int layer) {
            leave(13);
            return lentSize(layer) + markOf(layer);
        }

        private int sizeOfNeeding(int layer) {
            leave(14);
            return sizeOfAsked(layer) + Integer.bitCount(program.layers[layer].needs);
        }

        private int lentMark(int layer) {
            leave(20);
            return program.bodiesOf(layer);
        }

        private int markOfAsked(int layer) {
            leave(21);
            return lentMark(layer) + (circumstances.isFound(layer) ? 100 : 0);
        }

        private int markOfEver(int layer) {
            leave(22);
            return lentMark(layer) + sizeOf(layer);
        }

        private void leave(int body) {
            if (tracedCount < MOST_TRACED) {
                traced[tracedCount] = body;
                tracedCount++;
            }
        }
    }
}
