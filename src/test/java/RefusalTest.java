/**
 * What every call throws, for each number of it that is too small or too large, for several that
 * are wrong at once, and that a refused call changes nothing, not even what is not asked for.
 */
public final class RefusalTest extends Checks {
    private interface OfNumbers {
        void make(CutoffMill mill, int[] a);
    }

    /** A call, the bounds of each of its numbers, and what is thrown beyond these. */
    private record Face(String name, OfNumbers call, int[] least, int[] most, String[] due) { }

    private static final String I = INDEX;
    private static final String A = ARGUMENT;

    /** For a mill of 3 modules, each with an import, and with 2 faults in all. */
    private static final Face[] FACES = {
        face("declare", (m, a) -> m.declare(a[0], a[1], a[2], a[3] == 1, a[4], a[5], a[6]),
            new int[][] {{0, 2}, {0, 15}, {0, 1}, {0, 1}, {-99, 99}, {-1, 15}, {-1, 15}}, I, A, A, null, A, A, A),
        face("drop", (m, a) -> m.drop(a[0], a[1]), new int[][] {{0, 2}, {0, 15}}, I, A),
        face("bring", (m, a) -> m.bring(a[0], a[1], a[2], a[3], a[4] == 1),
            new int[][] {{0, 2}, {0, 7}, {-1, 15}, {0, 15}, {0, 1}}, I, A, A, A, null),
        face("leave", (m, a) -> m.leave(a[0], a[1]), new int[][] {{0, 2}, {0, 0}}, I, I),
        face("ofModule", (m, a) -> m.ofModule(a[0], a[1]), new int[][] {{0, 2}, {0, 8}}, I, A),
        face("within", (m, a) -> m.within(a[0], a[1], a[2]), new int[][] {{0, 2}, {0, 15}, {0, 1}}, I, A, A),
        face("outside", (m, a) -> m.outside(a[0], a[1], a[2]), new int[][] {{0, 2}, {0, 15}, {0, 5}}, I, A, A),
        face("build", (m, a) -> m.build(a[0]), new int[][] {{1, 8}}, A),
        face("why", (m, a) -> m.why(a[0], a[1]), new int[][] {{0, 2}, {0, 3}}, I, A),
        face("built", (m, a) -> m.built(a[0], a[1], a[2]), new int[][] {{0, 2}, {0, 15}, {0, 5}}, I, A, A),
        face("fault", (m, a) -> m.fault(a[0], a[1]), new int[][] {{0, 1}, {0, 2}}, I, A),
        face("run", (m, a) -> m.run(a[0], a[1]), new int[][] {{0, 2}, {0, 15}}, I, A),
        face("many", (m, a) -> m.many(a[0]), new int[][] {{0, 9}}, A),
        face("builtBy", (m, a) -> m.builtBy(a[0], a[1], a[2]), new int[][] {{0, 2}, {0, 15}, {-99, 99}}, I, A, A),
        face("rounds", (m, a) -> m.rounds(a[0]), new int[][] {{1, 4}}, A),
    };

    public static void main(String[] args) {
        theFirstAndTheLastGoodNumber();
        oneNumberBeyond();
        numbersBeyondTogether();
        anEmptyMillHasNoModule();
        whatIsWrongGoesAheadOfWhatIsFull();
        bringIsRefusedWithNumbersThatAreGood();
        refusedCallsChangeNothing();
        end();
    }

    private static Face face(String name, OfNumbers call, int[][] bounds, String... due) {
        int[] least = new int[bounds.length];
        int[] most = new int[bounds.length];
        for (int k = 0; k < bounds.length; k++) {
            least[k] = bounds[k][0];
            most[k] = bounds[k][1];
        }
        return new Face(name, call, least, most, due);
    }

    private static CutoffMill mill() {
        CutoffMill mill = withModules(3);
        for (int module = 0; module < 3; module++) all(mill, module, module == 0 ? 1 : 0, true);
        constant(mill, 1, 4, 5);
        constant(mill, 1, 5, 5, 9, NONE);
        constant(mill, 2, 6, 7, 6, NONE);
        mill.build(8);
        constant(mill, 1, 4, 6);
        return mill;
    }

    /** Numbers that are good together: also for bring(), where they hang together. */
    private static int[] good(Face face, int lastToMost) {
        int[] a = face.least.clone();
        for (int k = 0; k < a.length; k++) if ((lastToMost >> k & 1) == 1) a[k] = face.most[k];
        if (face.name.equals("bring")) {
            if (a[1] == a[0]) a[1] = 1;
            if (a[2] == NONE) a[3] = 0;
        }
        return a;
    }

    private static void theFirstAndTheLastGoodNumber() {
        for (Face face : FACES) {
            part = face.name + ", the first and the last good numbers";
            for (int set = 0; set < 1 << face.least.length; set++) {
                CutoffMill mill = mill();
                int[] a = good(face, set);
                thrown("nothing", () -> face.call.make(mill, a));
            }
        }
    }

    private static int[] beyond(Face face, int k) {
        return new int[] {face.least[k] - 1, face.most[k] + 1, Integer.MIN_VALUE, Integer.MAX_VALUE};
    }

    private static void oneNumberBeyond() {
        for (Face face : FACES) {
            part = face.name + ", one number beyond";
            for (int k = 0; k < face.least.length; k++) {
                if (face.due[k] == null) continue;
                for (int set = 0; set < 1 << face.least.length; set += 3) {
                    CutoffMill mill = mill();
                    for (int value : beyond(face, k)) {
                        int[] a = good(face, set);
                        a[k] = value;
                        refused(mill, face.due[k], () -> face.call.make(mill, a));
                    }
                }
            }
        }
    }

    /** If several exceptions apply, the one that is named first is thrown. */
    private static void numbersBeyondTogether() {
        for (Face face : FACES) {
            part = face.name + ", several numbers beyond";
            for (int set = 1; set < 1 << face.least.length; set++) {
                String due = null;
                int[] low = good(face, 0);
                int[] high = good(face, 0);
                for (int k = 0; k < face.least.length; k++) {
                    if ((set >> k & 1) == 0 || face.due[k] == null) continue;
                    low[k] = face.least[k] - 1;
                    high[k] = face.most[k] + 1;
                    if (due == null || face.due[k].equals(INDEX)) due = face.due[k];
                }
                if (due == null) continue;
                CutoffMill mill = mill();
                refused(mill, due, () -> face.call.make(mill, low));
                refused(mill, due, () -> face.call.make(mill, high));
            }
        }
    }

    private static void anEmptyMillHasNoModule() {
        for (Face face : FACES) {
            part = face.name + " of an empty mill";
            CutoffMill mill = new CutoffMill();
            if (!face.due[0].equals(INDEX)) continue;
            int[] beyond = good(face, 0);
            for (int k = 1; k < beyond.length; k++) if (face.due[k] != null) beyond[k] = face.most[k] + 1;
            refused(mill, INDEX, () -> face.call.make(mill, good(face, 0)));
            refused(mill, INDEX, () -> face.call.make(mill, beyond));
        }
    }

    /** Ahead of the IllegalStateException: no such MODULE, and then a wrong number. */
    private static void whatIsWrongGoesAheadOfWhatIsFull() {
        part = "what is wrong goes ahead of what is full";
        CutoffMill mill = withModules(8);
        for (int module = 0; module < 8; module += 7) {
            for (int name = 0; name < 6; name++) constant(mill, module, name, 0);
            for (int k = 0; k < 5; k++) all(mill, module, 3, true);
        }
        for (int module = 0; module < 8; module += 7) {
            int of = module;
            refused(mill, STATE, () -> mill.declare(of, 6, CONSTANT, true, 0, NONE, NONE));
            refused(mill, STATE, () -> mill.declare(of, 15, PROCEDURE, false, -99, 15, 15));
            refused(mill, ARGUMENT, () -> mill.declare(of, 16, CONSTANT, true, 0, NONE, NONE));
            refused(mill, ARGUMENT, () -> mill.declare(of, -1, CONSTANT, true, 0, NONE, NONE));
            refused(mill, ARGUMENT, () -> mill.declare(of, 6, 2, true, 0, NONE, NONE));
            refused(mill, ARGUMENT, () -> mill.declare(of, 6, CONSTANT, true, 100, NONE, NONE));
            refused(mill, ARGUMENT, () -> mill.declare(of, 6, CONSTANT, true, 0, -2, NONE));
            refused(mill, ARGUMENT, () -> mill.declare(of, 6, CONSTANT, true, 0, NONE, 16));
            refused(mill, STATE, () -> mill.bring(of, 3, 6, 6, true));
            refused(mill, ARGUMENT, () -> mill.bring(of, of, 6, 6, true));
            refused(mill, ARGUMENT, () -> mill.bring(of, 8, 6, 6, true));
            refused(mill, ARGUMENT, () -> mill.bring(of, 3, 16, 6, true));
            refused(mill, ARGUMENT, () -> mill.bring(of, 3, 6, 16, true));
            refused(mill, ARGUMENT, () -> mill.bring(of, 3, NONE, 6, true));
        }
        refused(mill, INDEX, () -> mill.declare(8, 6, CONSTANT, true, 0, NONE, NONE));
        refused(mill, INDEX, () -> mill.bring(8, 3, 6, 6, true));
        refused(mill, STATE, () -> mill.module());
    }

    /** From its own MODULE, and ALL under a NAME other than 0. */
    private static void bringIsRefusedWithNumbersThatAreGood() {
        part = "bring is refused with numbers that are good";
        CutoffMill mill = mill();
        for (int module = 0; module < 3; module++) {
            int of = module;
            refused(mill, ARGUMENT, () -> mill.bring(of, of, 4, 4, true));
            refused(mill, ARGUMENT, () -> mill.bring(of, of, NONE, 0, false));
            refused(mill, ARGUMENT, () -> mill.bring(of, of, NONE, 15, false));
            for (int under = 1; under <= 15; under += 7) {
                int as = under;
                refused(mill, ARGUMENT, () -> mill.bring(of, 7, NONE, as, true));
            }
            refused(mill, INDEX, () -> mill.bring(3 + of, 3 + of, NONE, 1, true));
        }
    }

    /** One call of each kind that throws, whatever the mill is like. */
    private static void refuseAll(CutoffMill mill, int step) {
        Face face = FACES[step % FACES.length];
        for (int k = 0; k < face.least.length; k++) {
            if (face.due[k] == null) continue;
            int[] a = good(face, 0);
            // Beyond what there can be at all, as this mill has not always 3 modules.
            a[k] = step % 2 == 0 ? -100 : 100;
            thrown(face.name, face.due[k], mill, face.call, a);
        }
    }

    private static void thrown(String name, String due, CutoffMill mill, OfNumbers call, int[] a) {
        String before = part;
        part = part + ", " + name;
        thrown(due, () -> call.make(mill, a));
        part = before;
    }

    /** A method that throws an exception changes nothing: two mills, of which one refuses calls in between. */
    private static void refusedCallsChangeNothing() {
        part = "refused calls change nothing";
        for (int start = 0; start < FACES.length; start++) {
            CutoffMill plain = mill();
            CutoffMill refusing = mill();
            for (int step = 0; step < 40; step++) {
                refuseAll(refusing, start + step);
                int did = edit(plain, step);
                same("edit " + step, edit(refusing, step), did);
                same("digest()", refusing.digest(), plain.digest());
            }
        }
    }

    /** Edits and builds that fill the store and come back to what it holds. */
    private static int edit(CutoffMill mill, int step) {
        switch (step % 5) {
            case 0: return mill.declare(1, 4, step / 5 % 2, true, step * 7 % 12, NONE, NONE);
            case 1: return mill.bring(2, 1, NONE, 0, step % 2 == 0);
            case 2: return mill.build(1 + step % 3);
            case 3: return mill.leave(2, 0);
            default: return mill.build(8);
        }
    }
}
