/** Part 1 of the document's terms, and promises 1 to 6: how many of what, and what a text is. */
public final class TextBoundaryTest extends Checks {
    private interface OfMill {
        void ask(CutoffMill mill, int module);
    }

    public static void main(String[] args) {
        aNewMillIsEmpty();
        thereAreAtMost8Modules();
        onlyAddedModulesAreThere();
        anEmptyModule();
        aModuleHasAtMost6Declarations();
        eachDeclarationHasItsOwnName();
        sixInEachOfEightModules();
        namesAre0To15();
        kindsAre0And1();
        numbersAreMinus99To99();
        referencesAreNamesOrNone();
        theLeastAndTheMostOfAll();
        aDroppedDeclarationIsGone();
        aModuleHasAtMost5Imports();
        fiveInEachOfEightModules();
        importsAreFrom0To7();
        importsAreOfNamesOrAll();
        allIsUnder0();
        importsBehindOneThatIsTakenAway();
        theOrderOfDeclarationsIsNoPartOfAText();
        allOfADeclarationIsPartOfAText();
        allOfAnImportIsPartOfAText();
        theOrderOfImportsIsPartOfAText();
        anEmptyTextIsOneToo();
        end();
    }

    /** Creates a mill without MODULES. */
    private static void aNewMillIsEmpty() {
        part = "a new mill is empty";
        CutoffMill mill = new CutoffMill();
        for (int what = 0; what <= 9; what++) same("many(" + what + ")", mill.many(what), 0);
        same("fetchedPart() is 0", mill.fetchedPart() == 0.0, true);
        same("wouldBuild()", mill.wouldBuild(), 0);
        for (int workers = 1; workers <= 4; workers++) same("rounds", mill.rounds(workers), 0);
        same("isAsNew()", mill.isAsNew(), true);
        thrown(INDEX, () -> mill.fault(0, 0));
        same("build(1)", mill.build(1), 0);
        same("build(8)", mill.build(8), 0);
        int[] due = {0, 0, 0, 0, 0, 0, 0, 0, 0, 2};
        for (int what = 0; what <= 9; what++) same("many(" + what + ") behind two builds", mill.many(what), due[what]);
        same("fetchedPart() is still 0", mill.fetchedPart() == 0.0, true);
    }

    /** MODULES: at most 8, numbered from 0 as they are added. */
    private static void thereAreAtMost8Modules() {
        part = "there are at most 8 modules";
        CutoffMill mill = new CutoffMill();
        for (int k = 0; k < 8; k++) {
            same("module()", mill.module(), k);
            same("many(0)", mill.many(0), k + 1);
            same("many(3)", mill.many(3), k + 1);
        }
        refused(mill, STATE, () -> mill.module());
        refused(mill, STATE, () -> mill.module());
        same("many(0)", mill.many(0), 8);
        constant(mill, 7, 1, 5);
        same("build of eight", mill.build(8), 8);
        same("run in the last one", mill.run(7, 1), 5);
        refused(mill, STATE, () -> mill.module());
    }

    private static final OfMill[] OF_A_MODULE = {
        (mill, module) -> mill.declare(module, 1, CONSTANT, true, 0, NONE, NONE),
        (mill, module) -> mill.drop(module, 1),
        (mill, module) -> mill.bring(module, module == 7 ? 6 : 7, 1, 1, true),
        (mill, module) -> mill.leave(module, 0),
        (mill, module) -> mill.ofModule(module, 0),
        (mill, module) -> mill.within(module, 0, 0),
        (mill, module) -> mill.outside(module, 0, 0),
        (mill, module) -> mill.why(module, 0),
        (mill, module) -> mill.built(module, 0, 0),
        (mill, module) -> mill.run(module, 0),
        (mill, module) -> mill.builtBy(module, 0, 0),
    };

    /** "if there is no such MODULE": on both sides, in an empty mill, a full one, and between. */
    private static void onlyAddedModulesAreThere() {
        part = "only modules that were added are there";
        for (int count = 0; count <= 8; count++) {
            CutoffMill mill = withModules(count);
            for (OfMill call : OF_A_MODULE) {
                for (int module : new int[] {-1, count, count + 1, 8, 16, Integer.MIN_VALUE, Integer.MAX_VALUE}) {
                    if (module < 0 || module >= count) refused(mill, INDEX, () -> call.ask(mill, module));
                }
                // What leave() takes away is what bring() has just added.
                if (count > 0) call.ask(mill, 0);
                if (count > 1) call.ask(mill, count - 1);
            }
        }
    }

    /** Adds a MODULE, without a TEXT. */
    private static void anEmptyModule() {
        part = "an empty module";
        CutoffMill mill = withModules(1);
        isOfModule(mill, 0, 0);
        isOfModule(mill, 1, 0);
        isOfModule(mill, 2, 0);
        isOfModule(mill, 3, 0);
        isOfModule(mill, 4, 0);
        isOfModule(mill, 5, 0);
        isOfModule(mill, 8, 1);
        for (int name = 0; name <= 15; name++) {
            isWithin(mill, 0, name, NONE, NONE);
            isOutside(mill, 0, name, NONE, NONE);
            isAnswered(mill, 0, name, 0, 0, 0, 0);
        }
        renews(mill, 1, 0);
        same("results", mill.many(6), 1);
        isOfModule(mill, 8, 0);
        isBuilt(mill, 0, 0, NONE, NONE, NONE, NONE, NONE, NONE);
        same("run", mill.run(0, 0), FAILED);
        hasFaults(mill);
    }

    /** Throws IllegalStateException if there are 6 of other NAMES. */
    private static void aModuleHasAtMost6Declarations() {
        part = "a module has at most 6 declarations";
        CutoffMill mill = withModules(2);
        for (int k = 0; k < 6; k++) {
            same("declare", mill.declare(0, 3 * k, CONSTANT, true, k, NONE, NONE), k + 1);
            same("ofModule(0, 0)", mill.ofModule(0, 0), k + 1);
        }
        for (int name = 0; name <= 15; name++) {
            int free = name;
            if (name % 3 != 0) refused(mill, STATE, () -> mill.declare(0, free, CONSTANT, true, 0, NONE, NONE));
            else same("declare in place, with 6", mill.declare(0, name, CONSTANT, true, 9, NONE, NONE), 6);
        }
        mill.drop(0, 15);
        same("declare behind a drop", mill.declare(0, 14, CONSTANT, true, 0, NONE, NONE), 6);
        refused(mill, STATE, () -> mill.declare(0, 15, CONSTANT, true, 0, NONE, NONE));
        same("declare in the other module", mill.declare(1, 15, CONSTANT, true, 0, NONE, NONE), 1);
        same("many(1)", mill.many(1), 7);
    }

    /** Tells a DECLARATION, in place of one of that NAME. */
    private static void eachDeclarationHasItsOwnName() {
        part = "each declaration has its own name";
        CutoffMill mill = withModules(2);
        constant(mill, 1, 4, 50);
        constant(mill, 0, 4, 1);
        constant(mill, 0, 5, 2);
        same("declare in place", mill.declare(0, 4, PROCEDURE, false, -3, 5, 5), 2);
        isOutside(mill, 0, 4, NONE, NONE);
        mill.build(8);
        isBuilt(mill, 0, 4, 0, 1, 1, 0, NONE, NONE);
        isBuilt(mill, 1, 4, 0, 0, 50, 0, NONE, NONE);
    }

    private static void sixInEachOfEightModules() {
        part = "6 declarations in each of 8 modules";
        CutoffMill mill = withModules(8);
        for (int k = 0; k < 48; k++) same("declare", mill.declare(k / 6, 15 - k % 6, CONSTANT, true, k, NONE, NONE), k % 6 + 1);
        same("many(1)", mill.many(1), 48);
        isOfModule(mill, 0, 6, 6, 6, 6, 6, 6, 6, 6);
        renews(mill, 8, 0);
        for (int k = 0; k < 48; k++) same("run", mill.run(k / 6, 15 - k % 6), k);
    }

    /** NAMES are 0 to 15. */
    private static void namesAre0To15() {
        part = "names are 0 to 15";
        CutoffMill mill = withModules(1);
        for (int name = 0; name <= 15; name++) {
            same("declare", mill.declare(0, name, CONSTANT, true, name, NONE, NONE), 1);
            isWithin(mill, 0, name, 0, name);
            isOutside(mill, 0, name, 0, name);
            mill.build(8);
            isBuilt(mill, 0, name, 0, 0, name);
            same("run", mill.run(0, name), name);
            same("builtBy", mill.builtBy(0, name, 99), 1);
            same("drop", mill.drop(0, name), true);
        }
        for (int name : new int[] {-1, 16, -2, 17, 32, Integer.MIN_VALUE, Integer.MAX_VALUE}) {
            refused(mill, ARGUMENT, () -> mill.declare(0, name, CONSTANT, true, 0, NONE, NONE));
            refused(mill, ARGUMENT, () -> mill.drop(0, name));
            refused(mill, ARGUMENT, () -> mill.within(0, name, 0));
            refused(mill, ARGUMENT, () -> mill.outside(0, name, 0));
            refused(mill, ARGUMENT, () -> mill.built(0, name, 0));
            refused(mill, ARGUMENT, () -> mill.run(0, name));
            refused(mill, ARGUMENT, () -> mill.builtBy(0, name, 0));
        }
    }

    /** A CONSTANT (0) or a PROCEDURE (1). */
    private static void kindsAre0And1() {
        part = "kinds are 0 and 1";
        CutoffMill mill = withModules(1);
        mill.declare(0, 0, 0, true, 3, NONE, NONE);
        mill.declare(0, 1, 1, true, 3, NONE, NONE);
        for (int kind : new int[] {-1, 2, Integer.MIN_VALUE, Integer.MAX_VALUE}) {
            refused(mill, ARGUMENT, () -> mill.declare(0, 2, kind, true, 3, NONE, NONE));
            refused(mill, ARGUMENT, () -> mill.declare(0, 1, kind, true, 3, NONE, NONE));
        }
        mill.build(8);
        isAnswered(mill, 0, 0, 1, 0, 0, 3);
        isAnswered(mill, 0, 1, 0, 0, 1, 3);
    }

    /** With a number (-99 to 99). */
    private static void numbersAreMinus99To99() {
        part = "numbers are -99 to 99";
        CutoffMill mill = withModules(1);
        for (int number = -99; number <= 99; number += 33) {
            constant(mill, 0, 0, number);
            procedure(mill, 0, 1, -number, 0, NONE);
            procedure(mill, 0, 2, number, NONE, NONE);
            mill.build(8);
            isBuilt(mill, 0, 0, 0, 0, number);
            isBuilt(mill, 0, 1, 0, 1, 0);
            isBuilt(mill, 0, 2, 0, 1, number);
            same("builtBy of the same", mill.builtBy(0, 0, number), 0);
        }
        for (int number : new int[] {-100, 100, Integer.MIN_VALUE, Integer.MAX_VALUE}) {
            refused(mill, ARGUMENT, () -> mill.declare(0, 0, CONSTANT, true, number, NONE, NONE));
            refused(mill, ARGUMENT, () -> mill.declare(0, 3, PROCEDURE, false, number, NONE, NONE));
            refused(mill, ARGUMENT, () -> mill.builtBy(0, 0, number));
            refused(mill, ARGUMENT, () -> mill.builtBy(0, 9, number));
        }
        same("builtBy at the one end", mill.builtBy(0, 0, -99), 1);
        same("builtBy at the other end", mill.builtBy(0, 0, 99), 0);
        same("builtBy of none, at the ends", mill.builtBy(0, 9, -99) + mill.builtBy(0, 9, 99), 0);
    }

    /** Two REFERENCES p and q, each a NAME or NONE. */
    private static void referencesAreNamesOrNone() {
        part = "references are names or NONE";
        for (int name = 0; name <= 15; name++) {
            CutoffMill mill = withModules(1);
            int other = 15 - name;
            constant(mill, 0, name, 7);
            procedure(mill, 0, other, 1, name, NONE);
            mill.build(8);
            isBuilt(mill, 0, other, 0, 1, 8);
            procedure(mill, 0, other, 2, NONE, name);
            mill.build(8);
            isBuilt(mill, 0, other, 0, 1, 9);
            procedure(mill, 0, other, 3, NONE, NONE);
            mill.build(8);
            isBuilt(mill, 0, other, 0, 1, 3);
        }
        CutoffMill mill = withModules(1);
        for (int name : new int[] {-2, 16, Integer.MIN_VALUE, Integer.MAX_VALUE}) {
            refused(mill, ARGUMENT, () -> mill.declare(0, 0, CONSTANT, true, 0, name, NONE));
            refused(mill, ARGUMENT, () -> mill.declare(0, 0, CONSTANT, true, 0, NONE, name));
            refused(mill, ARGUMENT, () -> mill.declare(0, 0, PROCEDURE, true, 0, name, name));
        }
    }

    /** A declaration and an import of nothing but the smallest numbers, or the largest ones, is one, too. */
    private static void theLeastAndTheMostOfAll() {
        part = "the least and the most of all";
        CutoffMill mill = withModules(8);
        same("declare", mill.declare(0, 0, CONSTANT, false, -99, NONE, NONE), 1);
        isWithin(mill, 0, 0, 0, 0);
        isOutside(mill, 0, 0, NONE, NONE);
        same("declare", mill.declare(7, 15, PROCEDURE, true, 99, 15, 15), 1);
        isOutside(mill, 7, 15, 7, 15);
        same("bring", mill.bring(1, 0, NONE, 0, false), 0);
        same("bring", mill.bring(0, 7, 15, 15, true), 0);
        isOutside(mill, 0, 15, 7, 15);
        isWithin(mill, 1, 15, 7, 15);
        mill.build(8);
        isBuilt(mill, 0, 0, 0, 0, -99, 0, NONE, NONE);
        isBuilt(mill, 7, 15, 0, 0, 99, 2, 7, 15);
        same("many(1)", mill.many(1), 2);
        same("drop", mill.drop(0, 0), true);
        same("leave", mill.leave(1, 0), 0);
    }

    /** Takes a DECLARATION away. Returns whether there was one. */
    private static void aDroppedDeclarationIsGone() {
        part = "a dropped declaration is gone";
        CutoffMill mill = withModules(3);
        for (int name = 0; name <= 15; name++) same("drop in an empty module", mill.drop(1, name), false);
        for (int module = 0; module < 3; module++) constant(mill, module, 8, module);
        mill.declare(1, 9, CONSTANT, false, 0, NONE, NONE);
        same("drop beside it", mill.drop(1, 7), false);
        same("drop", mill.drop(1, 8), true);
        same("drop of one that is not public", mill.drop(1, 9), true);
        same("drop of what is gone", mill.drop(1, 8), false);
        isOfModule(mill, 0, 1, 0, 1);
        isWithin(mill, 0, 8, 0, 8);
        isWithin(mill, 1, 8, NONE, NONE);
        isWithin(mill, 2, 8, 2, 8);
    }

    /** Throws IllegalStateException if it has 5. */
    private static void aModuleHasAtMost5Imports() {
        part = "a module has at most 5 imports";
        CutoffMill mill = withModules(2);
        for (int k = 0; k < 5; k++) {
            same("bring", mill.bring(0, 1, k % 2 == 0 ? NONE : 3, 0, true), k);
            same("ofModule(0, 1)", mill.ofModule(0, 1), k + 1);
        }
        refused(mill, STATE, () -> mill.bring(0, 1, NONE, 0, true));
        refused(mill, STATE, () -> mill.bring(0, 7, 4, 4, false));
        same("leave", mill.leave(0, 2), 4);
        same("bring behind a leave", mill.bring(0, 1, 9, 9, true), 4);
        refused(mill, STATE, () -> mill.bring(0, 1, 9, 9, true));
        same("bring to the other module", mill.bring(1, 0, 9, 9, true), 0);
    }

    private static void fiveInEachOfEightModules() {
        part = "5 imports in each of 8 modules";
        CutoffMill mill = withModules(8);
        for (int k = 0; k < 40; k++) {
            same("bring", mill.bring(k / 5, (k / 5 + k % 5 + 1) % 8, NONE, 0, true), k % 5);
        }
        same("many(2)", mill.many(2), 40);
        isOfModule(mill, 1, 5, 5, 5, 5, 5, 5, 5, 5);
        // Each from the five behind it, so that all are one ring.
        isOfModule(mill, 4, 62, 124, 248, 241, 227, 199, 143, 31);
        isOfModule(mill, 2, 0, 0, 0, 0, 0, 0, 0, 0);
        constant(mill, 4, 15, 6);
        for (int module = 0; module < 8; module++) isOutside(mill, module, 15, 4, 15);
        renews(mill, 1, 0);
        for (int module = 0; module < 8; module++) same("leave", mill.leave(module, 4), 4);
        same("many(2)", mill.many(2), 32);
    }

    /** An IMPORT is from a MODULE, another one, there or not yet (0 to 7). */
    private static void importsAreFrom0To7() {
        part = "imports are from 0 to 7";
        for (int module = 0; module < 8; module++) {
            CutoffMill mill = withModules(module + 1);
            int own = module;
            for (int from = 0; from <= 7; from++) {
                if (from == module) continue;
                same("bring", mill.bring(module, from, 2, 3, true), 0);
                same("leans", mill.ofModule(module, 4), from < module ? 1 << from : 0);
                same("leave", mill.leave(module, 0), 0);
            }
            for (int from : new int[] {-1, 8, own, Integer.MIN_VALUE, Integer.MAX_VALUE}) {
                refused(mill, ARGUMENT, () -> mill.bring(own, from, 2, 3, true));
                refused(mill, ARGUMENT, () -> mill.bring(own, from, NONE, 0, false));
            }
        }
    }

    /** It is of one NAME, under a NAME that may be another one, or of ALL. */
    private static void importsAreOfNamesOrAll() {
        part = "imports are of names or of all";
        CutoffMill mill = withModules(2);
        for (int name = 0; name <= 15; name++) {
            constant(mill, 1, name, name);
            same("bring", mill.bring(0, 1, name, 15 - name, false), 0);
            isWithin(mill, 0, 15 - name, 1, name);
            isWithin(mill, 0, name, NONE, NONE);
            mill.leave(0, 0);
            same("bring of all", mill.bring(0, 1, NONE, 0, false), 0);
            isWithin(mill, 0, name, 1, name);
            isWithin(mill, 0, 15 - name, NONE, NONE);
            mill.leave(0, 0);
            mill.drop(1, name);
        }
        for (int name : new int[] {-2, 16, Integer.MIN_VALUE, Integer.MAX_VALUE}) {
            refused(mill, ARGUMENT, () -> mill.bring(0, 1, name, 0, true));
            refused(mill, ARGUMENT, () -> mill.bring(0, 1, 0, name, true));
        }
        refused(mill, ARGUMENT, () -> mill.bring(0, 1, 0, -1, true));
    }

    /** Under: not 0 to 15, or not 0 for ALL. */
    private static void allIsUnder0() {
        part = "all is under 0";
        CutoffMill mill = withModules(2);
        for (int name = -1; name <= 16; name++) {
            int under = name;
            if (under != 0) refused(mill, ARGUMENT, () -> mill.bring(0, 1, NONE, under, true));
        }
        same("bring", mill.bring(0, 1, NONE, 0, true), 0);
    }

    /** Those behind it are at one place less; if there is no such place. */
    private static void importsBehindOneThatIsTakenAway() {
        part = "imports behind one that is taken away";
        for (int taken = 0; taken < 5; taken++) {
            CutoffMill mill = withModules(2);
            for (int name = 0; name < 5; name++) {
                constant(mill, 1, name, 0);
                mill.bring(0, 1, name, 10 + name, false);
            }
            for (int k : new int[] {-1, 5, Integer.MIN_VALUE, Integer.MAX_VALUE}) refused(mill, INDEX, () -> mill.leave(0, k));
            same("leave", mill.leave(0, taken), 4);
            for (int name = 0; name < 5; name++) {
                isWithin(mill, 0, 10 + name, name == taken ? NONE : 1, name == taken ? NONE : name);
            }
            refused(mill, INDEX, () -> mill.leave(0, 4));
            // Now the one at the place of that one, and so on from there.
            for (int left = 3; left >= taken; left--) same("leave", mill.leave(0, taken), left);
            for (int name = 0; name < taken; name++) isWithin(mill, 0, 10 + name, 1, name);
            same("imports", mill.ofModule(0, 1), taken);
            refused(mill, INDEX, () -> mill.leave(0, mill.ofModule(0, 1)));
        }
    }

    /** The same DECLARATIONS by NAMES (in whatever order). */
    private static void theOrderOfDeclarationsIsNoPartOfAText() {
        part = "the order of declarations is no part of a text";
        CutoffMill mill = withModules(1);
        for (int name = 0; name < 6; name++) constant(mill, 0, name, name);
        mill.build(8);
        for (int name = 0; name < 6; name++) {
            mill.drop(0, name);
            isWhy(mill, 0, 3, 0, NONE, NONE);
        }
        for (int name = 5; name >= 0; name--) {
            isWhy(mill, 0, 3, 0, NONE, NONE);
            constant(mill, 0, name, name);
        }
        isWhy(mill, 0, 0, NONE, NONE, NONE);
        isOfModule(mill, 8, 0);
    }

    /** Kind, PUBLIC or not, number, p and q, and the NAME. */
    private static void allOfADeclarationIsPartOfAText() {
        part = "all of a declaration is part of a text";
        CutoffMill mill = withModules(1);
        mill.declare(0, 5, CONSTANT, true, 0, NONE, NONE);
        mill.build(8);
        int[][] others = {{PROCEDURE, 1, 0, NONE, NONE}, {CONSTANT, 0, 0, NONE, NONE}, {CONSTANT, 1, 1, NONE, NONE},
            {CONSTANT, 1, -1, NONE, NONE}, {CONSTANT, 1, 0, 0, NONE}, {CONSTANT, 1, 0, NONE, 0}, {CONSTANT, 1, 0, 15, NONE},
            {CONSTANT, 1, 0, NONE, 15}, {CONSTANT, 1, 99, NONE, NONE}, {CONSTANT, 1, -99, NONE, NONE}};
        for (int[] d : others) {
            mill.declare(0, 5, d[0], d[1] == 1, d[2], d[3], d[4]);
            isWhy(mill, 0, 3, 0, NONE, NONE);
            mill.declare(0, 5, CONSTANT, true, 0, NONE, NONE);
            isWhy(mill, 0, 0, NONE, NONE, NONE);
        }
        mill.drop(0, 5);
        mill.declare(0, 6, CONSTANT, true, 0, NONE, NONE);
        isWhy(mill, 0, 3, 0, NONE, NONE);
        mill.declare(0, 5, CONSTANT, true, 0, NONE, NONE);
        isWhy(mill, 0, 3, 0, NONE, NONE);
        mill.drop(0, 6);
        isWhy(mill, 0, 0, NONE, NONE, NONE);
    }

    /** From which MODULE, of which NAME or ALL, under which, and AGAIN. */
    private static void allOfAnImportIsPartOfAText() {
        part = "all of an import is part of a text";
        CutoffMill mill = withModules(1);
        int[][] imports = {{7, 0, 0, 0}, {6, 0, 0, 0}, {7, 1, 0, 0}, {7, 0, 1, 0}, {7, 0, 0, 1}, {7, NONE, 0, 0}, {7, 15, 0, 0},
            {7, 0, 15, 0}, {7, NONE, 0, 1}};
        for (int was = 0; was < imports.length; was++) {
            for (int is = 0; is < imports.length; is++) {
                mill = withModules(1);
                int[] i = imports[was];
                mill.bring(0, i[0], i[1], i[2], i[3] == 1);
                mill.build(8);
                mill.leave(0, 0);
                isWhy(mill, 0, 3, 0, NONE, NONE);
                i = imports[is];
                mill.bring(0, i[0], i[1], i[2], i[3] == 1);
                isWhy(mill, 0, was == is ? 0 : 3, was == is ? NONE : 0, NONE, NONE);
            }
        }
        mill.bring(0, 7, NONE, 0, true);
        isWhy(mill, 0, 3, 0, NONE, NONE);
    }

    /** The same IMPORTS in the same order. */
    private static void theOrderOfImportsIsPartOfAText() {
        part = "the order of imports is part of a text";
        CutoffMill mill = withModules(1);
        for (int name = 0; name < 5; name++) one(mill, 0, 7, name, true);
        mill.build(8);
        mill.leave(0, 3);
        one(mill, 0, 7, 3, true);
        isWhy(mill, 0, 3, 0, NONE, NONE);
        mill.leave(0, 3);
        one(mill, 0, 7, 4, true);
        isWhy(mill, 0, 0, NONE, NONE, NONE);
        mill = withModules(1);
        one(mill, 0, 7, 0, true);
        one(mill, 0, 7, 1, true);
        one(mill, 0, 7, 0, true);
        mill.build(8);
        // [1 0 0], [0 0 1], and again [0 1 0], where one that stands twice has changed places.
        int[] next = {0, 1, 0};
        for (int k = 0; k < 3; k++) {
            mill.leave(0, 0);
            one(mill, 0, 7, next[k], true);
            isWhy(mill, 0, k == 2 ? 0 : 3, k == 2 ? NONE : 0, NONE, NONE);
        }
    }

    private static void anEmptyTextIsOneToo() {
        part = "an empty text is one, too";
        CutoffMill mill = withModules(1);
        renews(mill, 1, 0);
        constant(mill, 0, 0, 0);
        one(mill, 0, 1, 1, true);
        renews(mill, 1, 0);
        mill.drop(0, 0);
        mill.leave(0, 0);
        isWhy(mill, 0, 3, 0, NONE, NONE);
        renews(mill, 0, 1);
        isOfModule(mill, 6, 2);
        isOfModule(mill, 7, 1);
        isBuilt(mill, 0, 0, NONE);
    }
}
