import java.lang.reflect.Array;
import java.util.Random;

/** Calls with SHEETS by chance, with told seeds, against Java's own arrays of bytes, shorts and ints. */
public final class SheetModelTest {
    private static final int BAD = -1000001, NULL = 1, PLACE = 2, KIND = 3, SIZE = 4, STORE = 5;
    private static final int RUNS = 6000, CALLS = 100;
    private static final Check CHECK = new Check();

    private final Random chance;
    private final String name;
    private final WakingLayers x;
    private final Object[] sheets = new Object[8];
    private final int[] told = new int[4];
    private int status;

    private SheetModelTest(int seed) {
        chance = new Random(seed);
        name = "seed " + seed + ": ";
        x = CHECK.told("layer span 3;layer ask 4;");
    }

    public static void main(String[] args) {
        for (int seed = 0; seed < RUNS; seed++) {
            SheetModelTest run = new SheetModelTest(seed);
            for (int n = 0; n < CALLS; n++) {
                run.step();
            }
            run.lookAtItems();
        }
        CHECK.finish();
    }

    private void step() {
        switch (chance.nextInt(9)) {
            case 0:
                sheet(someSheet(), upTo(-1, 3), chance.nextInt(8) == 0 ? someNumber() : upTo(-1, 9));
                break;
            case 1:
                drop(someSheet());
                break;
            case 2:
            case 3:
            case 4:
                set(someSheet(), somePlace(), someNumber());
                break;
            case 5:
            case 6:
                copy(someSheet(), somePlace(), someSheet(), somePlace(), somePlace());
                break;
            case 7:
                facts(someSheet(), somePlace(), upTo(0, 5));
                break;
            default:
                as(upTo(-1, 2), upTo(-1, 6));
                break;
        }
        due("status()", x.status(), status);
    }

    private void due(String what, long got, long want) {
        CHECK.due(name + what, got, want);
    }

    private int upTo(int least, int most) {
        return least + chance.nextInt(most - least + 1);
    }

    private int someSheet() {
        return chance.nextInt(12) == 0 ? upTo(-2, 9) : upTo(0, 3);
    }

    private int somePlace() {
        int[] far = {Integer.MIN_VALUE, Integer.MAX_VALUE, -1, 40, 41};
        return chance.nextInt(10) == 0 ? far[chance.nextInt(far.length)] : upTo(0, 6);
    }

    private int someNumber() {
        int[] near = {0, 127, 128, 255, 256, 32767, 32768, 65535, 65536, Integer.MAX_VALUE, Integer.MIN_VALUE};
        switch (chance.nextInt(3)) {
            case 0:
                return chance.nextInt();
            case 1:
                return near[chance.nextInt(near.length)] * (chance.nextBoolean() ? 1 : -1) + upTo(-1, 1);
            default:
                return upTo(-1, 10);
        }
    }

    private static boolean isSheet(int sheet) {
        return sheet >= 0 && sheet <= 7;
    }

    private int finding(int number) {
        status = number;
        return -1000010 - number;
    }

    private int fine(int answer) {
        status = 0;
        return answer;
    }

    private static int item(Object sheet, int i) {
        return ((Number) Array.get(sheet, i)).intValue();
    }

    private static boolean reaches(Object sheet, long i, long n) {
        return i >= 0 && n >= 0 && i + n <= Array.getLength(sheet);
    }

    private void sheet(int sheet, int lane, int n) {
        int want;
        if (!isSheet(sheet) || lane < 0 || lane > 2 || n > 40) {
            want = BAD;
        } else if (n < 0) {
            want = finding(SIZE);
        } else {
            sheets[sheet] = lane == 0 ? new byte[n] : lane == 1 ? new short[n] : new int[n];
            want = fine(n);
        }
        due("sheet(" + sheet + ", " + lane + ", " + n + ")", x.sheet(sheet, lane, n), want);
    }

    private void drop(int sheet) {
        int want = BAD;
        if (isSheet(sheet)) {
            want = sheets[sheet] == null ? finding(NULL) : fine(Array.getLength(sheets[sheet]));
            sheets[sheet] = null;
        }
        due("drop(" + sheet + ")", x.drop(sheet), want);
        int laid = 0;
        for (Object one : sheets) {
            laid += one == null ? 0 : 1;
        }
        due("count(0)", x.count(0), laid);
    }

    private void set(int sheet, int i, int v) {
        int want;
        if (!isSheet(sheet)) {
            want = BAD;
        } else if (sheets[sheet] == null) {
            want = finding(NULL);
        } else if (!reaches(sheets[sheet], i, 1)) {
            want = finding(PLACE);
        } else {
            if (sheets[sheet] instanceof byte[] bytes) {
                bytes[i] = (byte) v;
            } else if (sheets[sheet] instanceof short[] shorts) {
                shorts[i] = (short) v;
            } else {
                ((int[]) sheets[sheet])[i] = v;
            }
            want = fine(item(sheets[sheet], i));
        }
        due("set(" + sheet + ", " + i + ", " + v + ")", x.set(sheet, i, v), want);
    }

    private void copy(int a, int i, int b, int j, int n) {
        int want;
        if (!isSheet(a) || !isSheet(b)) {
            want = BAD;
        } else if (sheets[a] == null || sheets[b] == null) {
            want = finding(NULL);
        } else if (sheets[a].getClass() != sheets[b].getClass()) {
            want = finding(STORE);
        } else if (!reaches(sheets[a], i, n) || !reaches(sheets[b], j, n)) {
            want = finding(PLACE);
        } else {
            System.arraycopy(sheets[a], i, sheets[b], j, n);
            want = fine(n);
        }
        due("copy(" + a + ", " + i + ", " + b + ", " + j + ", " + n + ")", x.copy(a, i, b, j, n), want);
    }

    private void facts(int sheet, int i, int n) {
        due("facts(" + sheet + ", " + i + ", " + n + ")", x.facts(sheet, i, n), dueFacts(sheet, i, n));
        for (int fact = 0; fact < 4; fact++) {
            due("fact " + fact, x.fact(fact, told[fact]), told[fact]);
        }
    }

    private int dueFacts(int sheet, int i, int n) {
        if (!isSheet(sheet) || n < 1 || n > 4) {
            return BAD;
        }
        if (sheets[sheet] == null) {
            return finding(NULL);
        }
        if (!reaches(sheets[sheet], i, n)) {
            return finding(PLACE);
        }
        for (int k = 0; k < n; k++) {
            if (item(sheets[sheet], i + k) < 0 || item(sheets[sheet], i + k) > 9) {
                return BAD;
            }
        }
        for (int k = 0; k < n; k++) {
            told[k] = item(sheets[sheet], i + k);
        }
        return fine(n);
    }

    private void as(int layer, int kind) {
        int want = BAD;
        if (layer >= 0 && layer <= 1 && kind >= 0 && kind <= 5) {
            boolean fits = kind == 0 || kind == (layer == 0 ? 1 : 3);
            want = fits ? fine(layer == 0 ? 3 : 4) : finding(KIND);
        }
        due("as(" + layer + ", " + kind + ")", x.as(layer, kind), want);
    }

    /** Only facts() shows what an ITEM is, and only if it is 0 to 9; of others it shows that they are not. */
    private void lookAtItems() {
        for (int sheet = 0; sheet < 8; sheet++) {
            int length = sheets[sheet] == null ? 0 : Array.getLength(sheets[sheet]);
            for (int i = 0; i < length; i++) {
                facts(sheet, i, 1);
            }
        }
    }
}
