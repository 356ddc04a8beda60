/** What the tests by hand share: how an answer is checked, and calls that many of them make. */
abstract class Checks {
    static final int CONSTANT = 0;
    static final int PROCEDURE = 1;
    static final int NONE = -1;
    static final int CLASH = -2;
    static final int FAILED = -1000000;
    static final String INDEX = "IndexOutOfBoundsException";
    static final String ARGUMENT = "IllegalArgumentException";
    static final String STATE = "IllegalStateException";

    /** The test that runs, as it is told with a wrong answer. */
    static String part = "";
    private static int wrong = 0;
    private static int checked = 0;

    interface Call {
        void make();
    }

    static void end() {
        System.out.println(checked + " checks, " + wrong + " wrong");
        if (wrong != 0 || checked == 0) System.exit(1);
    }

    static void same(String what, long got, long due) {
        checked++;
        if (got != due) {
            wrong++;
            System.out.println(part + ": " + what + " answered " + got + ", due is " + due);
        }
    }

    static void same(String what, boolean got, boolean due) {
        same(what, got ? 1 : 0, due ? 1 : 0);
    }

    /** The call throws just this. */
    static void thrown(String due, Call call) {
        checked++;
        String got = "nothing";
        try {
            call.make();
        } catch (RuntimeException e) {
            got = e.getClass().getSimpleName();
        }
        if (!got.equals(due)) {
            wrong++;
            System.out.println(part + ": threw " + got + ", due is " + due);
        }
    }

    /** The call throws just this, and nothing that can be asked is changed by it. */
    static void refused(CutoffMill mill, String due, Call call) {
        long before = mill.digest();
        thrown(due, call);
        same("digest behind a call that throws", mill.digest(), before);
    }

    // ---- calls

    static CutoffMill withModules(int count) {
        CutoffMill mill = new CutoffMill();
        for (int k = 0; k < count; k++) mill.module();
        return mill;
    }

    static void constant(CutoffMill mill, int module, int name, int number) {
        mill.declare(module, name, CONSTANT, true, number, NONE, NONE);
    }

    static void constant(CutoffMill mill, int module, int name, int number, int p, int q) {
        mill.declare(module, name, CONSTANT, true, number, p, q);
    }

    static void procedure(CutoffMill mill, int module, int name, int number, int p, int q) {
        mill.declare(module, name, PROCEDURE, true, number, p, q);
    }

    /** An import of one name, under this name. */
    static void one(CutoffMill mill, int module, int from, int name, boolean isAgain) {
        mill.bring(module, from, name, name, isAgain);
    }

    static void all(CutoffMill mill, int module, int from, boolean isAgain) {
        mill.bring(module, from, NONE, 0, isAgain);
    }

    // ---- answers

    static void isWithin(CutoffMill mill, int module, int name, int dueModule, int dueName) {
        same("within(" + module + ", " + name + ", 0)", mill.within(module, name, 0), dueModule);
        same("within(" + module + ", " + name + ", 1)", mill.within(module, name, 1), dueName);
    }

    static void isOutside(CutoffMill mill, int module, int name, int dueModule, int dueName) {
        same("outside(" + module + ", " + name + ", 0)", mill.outside(module, name, 0), dueModule);
        same("outside(" + module + ", " + name + ", 1)", mill.outside(module, name, 1), dueName);
    }

    /** Whether it is a constant, has a fault, is small; its number. */
    static void isAnswered(CutoffMill mill, int module, int name, int... due) {
        for (int k = 0; k < due.length; k++) {
            same("outside(" + module + ", " + name + ", " + (k + 2) + ")", mill.outside(module, name, k + 2), due[k]);
        }
    }

    /** Its fault, whether it is small, its number, how many calls, the first one. */
    static void isBuilt(CutoffMill mill, int module, int name, int... due) {
        for (int k = 0; k < due.length; k++) {
            same("built(" + module + ", " + name + ", " + k + ")", mill.built(module, name, k), due[k]);
        }
    }

    static void isWhy(CutoffMill mill, int module, int... due) {
        for (int k = 0; k < due.length; k++) {
            same("why(" + module + ", " + k + ")", mill.why(module, k), due[k]);
        }
    }

    /** The same question of module after module. */
    static void isOfModule(CutoffMill mill, int what, int... due) {
        for (int k = 0; k < due.length; k++) {
            same("ofModule(" + k + ", " + what + ")", mill.ofModule(k, what), due[k]);
        }
    }

    /** Fault by fault which one, its module, its name; and no more of them. */
    static void hasFaults(CutoffMill mill, int... due) {
        same("many(5)", mill.many(5), due.length / 3);
        for (int k = 0; k < due.length && k / 3 < mill.many(5); k++) {
            same("fault(" + k / 3 + ", " + k % 3 + ")", mill.fault(k / 3, k % 3), due[k]);
        }
        refused(mill, INDEX, () -> mill.fault(due.length / 3, 0));
    }

    /** How many rings a whole build builds and fetches. */
    static void renews(CutoffMill mill, int dueBuilt, int dueFetched) {
        int built = mill.many(7);
        int fetched = mill.many(8);
        same("wouldBuild()", mill.wouldBuild(), dueBuilt + dueFetched);
        same("build(8)", mill.build(8), dueBuilt + dueFetched);
        same("rings built", mill.many(7) - built, dueBuilt);
        same("rings fetched", mill.many(8) - fetched, dueFetched);
    }

    interface Maker {
        CutoffMill make();
    }

    /** Always the same mill, made anew before it has answered too often. */
    private static final class Anew {
        private final Maker maker;
        private CutoffMill mill;
        private int asked;

        Anew(Maker maker) {
            this.maker = maker;
        }

        CutoffMill mill() {
            if (asked % 256 == 0) mill = maker.make();
            asked++;
            return mill;
        }
    }

    /** The digest, worked out from the answers of all other calls. */
    static long digestOf(Maker maker) {
        Anew anew = new Anew(maker);
        long d = 58138;
        for (int k = 0; k <= 9; k++) d = d * 31 + anew.mill().many(k);
        int modules = anew.mill().many(0);
        for (int m = 0; m < modules; m++) {
            for (int k = 0; k <= 8; k++) d = d * 31 + anew.mill().ofModule(m, k);
            for (int k = 0; k <= 3; k++) d = d * 31 + anew.mill().why(m, k);
            for (int n = 0; n <= 15; n++) {
                for (int k = 0; k <= 1; k++) d = d * 31 + anew.mill().within(m, n, k);
                for (int k = 0; k <= 5; k++) d = d * 31 + anew.mill().outside(m, n, k);
                for (int k = 0; k <= 5; k++) d = d * 31 + anew.mill().built(m, n, k);
                d = d * 31 + anew.mill().run(m, n);
            }
        }
        int faults = anew.mill().many(5);
        for (int f = 0; f < faults; f++) for (int k = 0; k <= 2; k++) d = d * 31 + anew.mill().fault(f, k);
        d = d * 31 + anew.mill().wouldBuild();
        d = d * 31 + anew.mill().rounds(1);
        d = d * 31 + anew.mill().rounds(2);
        return d * 31 + (anew.mill().isAsNew() ? 1 : 0);
    }
}
