/** Part 2 of the document's terms, and promises 7 to 9: what a name is, what is looked for, rings and their order. */
public final class NameBoundaryTest extends Checks {
    public static void main(String[] args) {
        whatIsNotPublicIsNothing();
        aDeclarationGoesAheadOfImports();
        onlyImportsAgainCountFromOutside();
        theFirstImportOfOneNameSaysWhatItIs();
        anImportIsUnderItsOtherName();
        aClashByOneNameIsAClash();
        allOfNoneIsNothing();
        allOfTheSameIsThat();
        allOfOthersIsAClash();
        anImportOfOneNameGoesAheadOfAll();
        inAModuleThatIsNotThereIsNothing();
        whatComesBackIsNothing();
        whatComesBackByAllIsNothing();
        anotherNameIsNoComingBack();
        theOtherWayIsFoundWhereOneComesBack();
        withinPublicOrNot();
        withinAgainOrNot();
        withinNothingIsUnbound();
        withinAllClashes();
        fromThereToTheOwnModuleIsNoComingBack();
        whatOfWithin();
        whatOfOutside();
        anAnswerThatIsNoDeclaration();
        anAnswerBeforeItIsBuilt();
        whatIsLookedFor();
        lookedForOnce();
        lookedForInAll();
        theMostThatIsLookedFor();
        leansOnWhatIsThere();
        ringsOfOneAndOfEight();
        leaningOneWayIsNoRing();
        ringsThatShareAModuleAreOne();
        theOrderOfRings();
        whatOfModule();
        end();
    }

    /** The DECLARATION of it there, if it is PUBLIC; if there is one that is not: nothing. */
    private static void whatIsNotPublicIsNothing() {
        part = "what is not public is nothing";
        CutoffMill mill = withModules(2);
        mill.declare(0, 0, CONSTANT, false, 0, NONE, NONE);
        mill.declare(0, 15, PROCEDURE, true, 0, NONE, NONE);
        isOutside(mill, 0, 0, NONE, NONE);
        isOutside(mill, 0, 15, 0, 15);
        constant(mill, 1, 0, 0);
        one(mill, 0, 1, 0, true);
        all(mill, 0, 1, true);
        isOutside(mill, 0, 0, NONE, NONE);
        mill.drop(0, 0);
        isOutside(mill, 0, 0, 1, 0);
    }

    private static void aDeclarationGoesAheadOfImports() {
        part = "a declaration goes ahead of imports";
        CutoffMill mill = withModules(3);
        for (int module = 0; module < 3; module++) constant(mill, module, 4, 0);
        all(mill, 0, 1, true);
        all(mill, 0, 2, true);
        isOutside(mill, 0, 4, 0, 4);
        one(mill, 0, 1, 4, true);
        isOutside(mill, 0, 4, 0, 4);
        isWithin(mill, 0, 4, 0, 4);
        mill.drop(0, 4);
        isOutside(mill, 0, 4, 1, 4);
        mill.leave(0, 2);
        isOutside(mill, 0, 4, CLASH, CLASH);
    }

    /** By the first IMPORT of one NAME, under this NAME, that is AGAIN. */
    private static void onlyImportsAgainCountFromOutside() {
        part = "only imports that are again count from outside";
        CutoffMill mill = withModules(4);
        for (int module = 1; module < 4; module++) constant(mill, module, 4, 0);
        one(mill, 0, 1, 4, false);
        isOutside(mill, 0, 4, NONE, NONE);
        one(mill, 0, 2, 4, true);
        isOutside(mill, 0, 4, 2, 4);
        isWithin(mill, 0, 4, 1, 4);
        mill.leave(0, 1);
        all(mill, 0, 3, true);
        // Without one of one name that is again, it is that by all.
        isOutside(mill, 0, 4, 3, 4);
        isWithin(mill, 0, 4, 1, 4);
        mill.leave(0, 1);
        all(mill, 0, 3, false);
        isOutside(mill, 0, 4, NONE, NONE);
    }

    private static void theFirstImportOfOneNameSaysWhatItIs() {
        part = "the first import of one name says what it is";
        CutoffMill mill = withModules(4);
        constant(mill, 2, 4, 0);
        constant(mill, 3, 4, 0);
        one(mill, 0, 1, 4, true);
        one(mill, 0, 2, 4, true);
        all(mill, 0, 3, true);
        // If that is nothing, nothing: neither the next one nor all is asked.
        isOutside(mill, 0, 4, NONE, NONE);
        isWithin(mill, 0, 4, NONE, NONE);
        constant(mill, 1, 4, 0);
        isOutside(mill, 0, 4, 1, 4);
        mill.leave(0, 0);
        isOutside(mill, 0, 4, 2, 4);
        one(mill, 0, 1, 4, true);
        isOutside(mill, 0, 4, 2, 4);
        mill.leave(0, 0);
        mill.leave(0, 1);
        isOutside(mill, 0, 4, 3, 4);
    }

    private static void anImportIsUnderItsOtherName() {
        part = "an import is under its other name";
        CutoffMill mill = withModules(3);
        constant(mill, 1, 0, 0);
        constant(mill, 1, 15, 0);
        mill.bring(0, 1, 0, 15, true);
        isOutside(mill, 0, 15, 1, 0);
        isOutside(mill, 0, 0, NONE, NONE);
        mill.bring(0, 1, 15, 0, true);
        isOutside(mill, 0, 0, 1, 15);
        // By all it has the name that it has there.
        all(mill, 2, 0, true);
        isOutside(mill, 2, 15, 1, 0);
        isOutside(mill, 2, 0, 1, 15);
    }

    private static void aClashByOneNameIsAClash() {
        part = "a clash by an import of one name is a clash";
        CutoffMill mill = withModules(4);
        constant(mill, 2, 4, 0);
        constant(mill, 3, 4, 0);
        all(mill, 1, 2, true);
        all(mill, 1, 3, true);
        mill.bring(0, 1, 4, 9, true);
        isOutside(mill, 0, 9, CLASH, CLASH);
        isWithin(mill, 0, 9, CLASH, CLASH);
        isAnswered(mill, 0, 9, 0, 0, 0, 0);
    }

    /** Nothing, if there is none. */
    private static void allOfNoneIsNothing() {
        part = "all of none is nothing";
        CutoffMill mill = withModules(3);
        isOutside(mill, 0, 4, NONE, NONE);
        all(mill, 0, 1, true);
        all(mill, 0, 2, true);
        all(mill, 0, 7, true);
        isOutside(mill, 0, 4, NONE, NONE);
        isWithin(mill, 0, 4, NONE, NONE);
        mill.declare(1, 4, CONSTANT, false, 0, NONE, NONE);
        isOutside(mill, 0, 4, NONE, NONE);
        isWithin(mill, 0, 4, NONE, NONE);
    }

    /** Nothing aside: if all that is the same, that. */
    private static void allOfTheSameIsThat() {
        part = "all of the same is that";
        CutoffMill mill = withModules(7);
        constant(mill, 6, 4, 0);
        for (int module = 1; module <= 5; module++) all(mill, 0, module, true);
        isOutside(mill, 0, 4, NONE, NONE);
        // Once, and then by all and by one name, beside nothing.
        all(mill, 5, 6, true);
        isOutside(mill, 0, 4, 6, 4);
        all(mill, 2, 6, true);
        one(mill, 3, 6, 4, true);
        isOutside(mill, 0, 4, 6, 4);
        isWithin(mill, 0, 4, 6, 4);
        // The same import twice.
        all(mill, 1, 3, true);
        all(mill, 1, 3, true);
        isOutside(mill, 1, 4, 6, 4);
    }

    /** If not, or if one of it is a CLASH, a CLASH. */
    private static void allOfOthersIsAClash() {
        part = "all of others is a clash";
        CutoffMill mill = withModules(7);
        for (int module = 1; module <= 5; module++) all(mill, 0, module, true);
        constant(mill, 1, 4, 0);
        isOutside(mill, 0, 4, 1, 4);
        constant(mill, 5, 4, 0);
        isOutside(mill, 0, 4, CLASH, CLASH);
        mill.drop(1, 4);
        isOutside(mill, 0, 4, 5, 4);
        // Two names of one module are not the same.
        mill.drop(5, 4);
        constant(mill, 6, 1, 0);
        constant(mill, 6, 2, 0);
        mill.bring(1, 6, 1, 4, true);
        mill.bring(2, 6, 1, 4, true);
        isOutside(mill, 0, 4, 6, 1);
        mill.bring(3, 6, 2, 4, true);
        isOutside(mill, 0, 4, CLASH, CLASH);
        // A clash alone, with nothing beside it; and one with a declaration beside it.
        all(mill, 6, 0, true);
        isOutside(mill, 6, 4, CLASH, CLASH);
        mill.leave(3, 0);
        isOutside(mill, 6, 4, 6, 1);
        all(mill, 4, 3, true);
        all(mill, 4, 5, true);
        constant(mill, 3, 4, 0);
        constant(mill, 5, 4, 0);
        mill.leave(0, 4);
        mill.leave(0, 2);
        mill.leave(0, 1);
        mill.leave(0, 0);
        isOutside(mill, 0, 4, CLASH, CLASH);
        all(mill, 0, 3, true);
        isOutside(mill, 0, 4, CLASH, CLASH);
    }

    private static void anImportOfOneNameGoesAheadOfAll() {
        part = "an import of one name goes ahead of all";
        CutoffMill mill = withModules(3);
        for (int name = 3; name <= 5; name++) {
            constant(mill, 1, name, 0);
            constant(mill, 2, name, 0);
        }
        all(mill, 0, 1, true);
        all(mill, 0, 2, true);
        one(mill, 0, 2, 4, true);
        isOutside(mill, 0, 4, 2, 4);
        isWithin(mill, 0, 4, 2, 4);
        for (int name = 3; name <= 5; name += 2) {
            isOutside(mill, 0, name, CLASH, CLASH);
            isWithin(mill, 0, name, CLASH, CLASH);
        }
    }

    /** In a MODULE that is not there: nothing. */
    private static void inAModuleThatIsNotThereIsNothing() {
        part = "in a module that is not there is nothing";
        CutoffMill mill = withModules(2);
        constant(mill, 1, 4, 0);
        one(mill, 0, 7, 5, true);
        all(mill, 0, 2, true);
        all(mill, 0, 1, true);
        isOutside(mill, 0, 4, 1, 4);
        isOutside(mill, 0, 5, NONE, NONE);
        constant(mill, 1, 5, 0);
        isOutside(mill, 0, 5, NONE, NONE);
        isWithin(mill, 0, 5, NONE, NONE);
        for (int module = 2; module < 8; module++) mill.module();
        isOutside(mill, 0, 4, 1, 4);
        isOutside(mill, 0, 5, NONE, NONE);
        constant(mill, 7, 5, 0);
        isOutside(mill, 0, 5, 7, 5);
        constant(mill, 2, 4, 0);
        isOutside(mill, 0, 4, CLASH, CLASH);
    }

    /** What comes back to the same NAME in the same MODULE, as it is looked for from outside, is nothing. */
    private static void whatComesBackIsNothing() {
        part = "what comes back is nothing";
        CutoffMill mill = withModules(8);
        for (int module = 0; module < 8; module++) mill.bring(module, (module + 1) % 8, (module + 1) % 8, module, true);
        for (int module = 0; module < 8; module++) {
            isOutside(mill, module, module, NONE, NONE);
            isWithin(mill, module, module, NONE, NONE);
        }
        // A declaration on the way ends it.
        constant(mill, 3, 3, 0);
        for (int module = 0; module < 8; module++) {
            isOutside(mill, module, module, 3, 3);
            isWithin(mill, module, module, 3, 3);
        }
        mill.declare(3, 3, CONSTANT, false, 0, NONE, NONE);
        for (int module = 0; module < 8; module++) {
            isOutside(mill, module, module, NONE, NONE);
            isWithin(mill, module, module, module == 3 ? 3 : NONE, module == 3 ? 3 : NONE);
        }
    }

    private static void whatComesBackByAllIsNothing() {
        part = "what comes back by all is nothing";
        CutoffMill mill = withModules(8);
        for (int module = 0; module < 8; module++) {
            all(mill, module, (module + 1) % 8, true);
            all(mill, module, (module + 7) % 8, true);
        }
        for (int module = 0; module < 8; module++) isOutside(mill, module, 9, NONE, NONE);
        constant(mill, 5, 9, 0);
        for (int module = 0; module < 8; module++) isOutside(mill, module, 9, 5, 9);
        constant(mill, 1, 9, 0);
        // Whoever comes to one of both on the one side comes to the other one on the other side.
        for (int module = 0; module < 8; module++) {
            boolean isOwn = module == 1 || module == 5;
            isOutside(mill, module, 9, isOwn ? module : CLASH, isOwn ? 9 : CLASH);
        }
        // By one name that comes back: nothing, whatever there is by all.
        one(mill, 3, 4, 9, true);
        one(mill, 4, 3, 9, true);
        isOutside(mill, 3, 9, NONE, NONE);
        isOutside(mill, 4, 9, NONE, NONE);
        isOutside(mill, 2, 9, 1, 9);
    }

    private static void anotherNameIsNoComingBack() {
        part = "another name of the same module is no coming back";
        CutoffMill mill = withModules(8);
        // Five times through all modules, under the names 0 to 4, to name 5 of module 0.
        for (int k = 0; k < 40; k++) mill.bring(k % 8, (k + 1) % 8, (k + 1) / 8, k / 8, true);
        for (int k = 0; k < 40; k++) isOutside(mill, k % 8, k / 8, NONE, NONE);
        constant(mill, 0, 5, 0);
        for (int k = 0; k < 40; k++) isOutside(mill, k % 8, k / 8, 0, 5);
        isWithin(mill, 0, 0, 0, 5);
        mill.leave(7, 4);
        mill.bring(7, 0, 0, 4, true);
        for (int k = 0; k < 40; k++) isOutside(mill, k % 8, k / 8, NONE, NONE);
    }

    private static void theOtherWayIsFoundWhereOneComesBack() {
        part = "the other way is found where one comes back";
        CutoffMill mill = withModules(4);
        all(mill, 0, 1, true);
        all(mill, 0, 2, true);
        all(mill, 1, 0, true);
        constant(mill, 2, 4, 0);
        isOutside(mill, 0, 4, 2, 4);
        isOutside(mill, 1, 4, 2, 4);
        all(mill, 1, 3, true);
        isOutside(mill, 0, 4, 2, 4);
        constant(mill, 3, 4, 0);
        isOutside(mill, 0, 4, CLASH, CLASH);
        isOutside(mill, 1, 4, CLASH, CLASH);
        mill.drop(2, 4);
        isOutside(mill, 0, 4, 3, 4);
        isOutside(mill, 1, 4, 3, 4);
    }

    /** What a NAME is within a MODULE: the DECLARATION of it there, PUBLIC or not. */
    private static void withinPublicOrNot() {
        part = "within, public or not";
        CutoffMill mill = withModules(2);
        mill.declare(0, 0, CONSTANT, false, 0, NONE, NONE);
        mill.declare(0, 15, CONSTANT, true, 0, NONE, NONE);
        constant(mill, 1, 0, 0);
        constant(mill, 1, 15, 0);
        all(mill, 0, 1, true);
        one(mill, 0, 1, 0, true);
        one(mill, 0, 1, 15, true);
        isWithin(mill, 0, 0, 0, 0);
        isWithin(mill, 0, 15, 0, 15);
        mill.drop(0, 0);
        isWithin(mill, 0, 0, 1, 0);
    }

    /** By the first IMPORT of one NAME under this NAME, AGAIN or not. */
    private static void withinAgainOrNot() {
        part = "within, again or not";
        for (int again = 0; again < 4; again++) {
            CutoffMill mill = withModules(3);
            constant(mill, 1, 4, 0);
            constant(mill, 2, 4, 0);
            one(mill, 0, 1, 4, again % 2 == 1);
            one(mill, 0, 2, 4, again / 2 == 1);
            isWithin(mill, 0, 4, 1, 4);
            int due = again % 2 == 1 ? 1 : again / 2 == 1 ? 2 : NONE;
            isOutside(mill, 0, 4, due, due == NONE ? NONE : 4);
            mill.leave(0, 0);
            mill.leave(0, 0);
            all(mill, 0, 1, again % 2 == 1);
            isWithin(mill, 0, 4, 1, 4);
            all(mill, 0, 2, again / 2 == 1);
            isWithin(mill, 0, 4, CLASH, CLASH);
            due = again == 0 ? NONE : again == 3 ? CLASH : again;
            isOutside(mill, 0, 4, due, due < 0 ? due : 4);
        }
    }

    /** Nothing of all that: UNBOUND. */
    private static void withinNothingIsUnbound() {
        part = "within, nothing is unbound";
        CutoffMill mill = withModules(3);
        isWithin(mill, 0, 4, NONE, NONE);
        mill.declare(1, 4, CONSTANT, false, 0, NONE, NONE);
        constant(mill, 2, 4, 0);
        // What that is there: nothing, and no other import is asked.
        one(mill, 0, 1, 4, false);
        isWithin(mill, 0, 4, NONE, NONE);
        one(mill, 0, 2, 4, true);
        all(mill, 0, 2, false);
        isWithin(mill, 0, 4, NONE, NONE);
        isOutside(mill, 0, 4, 2, 4);
        mill.leave(0, 0);
        isWithin(mill, 0, 4, 2, 4);
        mill.leave(0, 0);
        isWithin(mill, 0, 4, 2, 4);
        mill.leave(0, 0);
        isWithin(mill, 0, 4, NONE, NONE);
    }

    /** Of all IMPORTS of ALL, likewise as above. */
    private static void withinAllClashes() {
        part = "within, all clashes";
        CutoffMill mill = withModules(5);
        all(mill, 0, 1, false);
        all(mill, 0, 2, true);
        all(mill, 0, 7, false);
        constant(mill, 3, 4, 0);
        one(mill, 1, 3, 4, true);
        isWithin(mill, 0, 4, 3, 4);
        all(mill, 2, 3, true);
        isWithin(mill, 0, 4, 3, 4);
        all(mill, 2, 4, true);
        isWithin(mill, 0, 4, 3, 4);
        constant(mill, 4, 4, 0);
        isWithin(mill, 0, 4, CLASH, CLASH);
        mill.leave(1, 0);
        isWithin(mill, 0, 4, CLASH, CLASH);
        mill.drop(4, 4);
        isWithin(mill, 0, 4, 3, 4);
        mill.drop(3, 4);
        isWithin(mill, 0, 4, NONE, NONE);
    }

    /** To come from there to the own MODULE, looked for from outside, is no coming back. */
    private static void fromThereToTheOwnModuleIsNoComingBack() {
        part = "from there to the own module is no coming back";
        CutoffMill mill = withModules(3);
        one(mill, 0, 1, 4, false);
        one(mill, 0, 2, 4, true);
        one(mill, 1, 0, 4, true);
        constant(mill, 2, 4, 0);
        // Within it begins with module 1, comes to name 4 of module 0 from outside, and so to module 2.
        isWithin(mill, 0, 4, 2, 4);
        isOutside(mill, 0, 4, 2, 4);
        mill.leave(0, 1);
        isWithin(mill, 0, 4, NONE, NONE);
        isOutside(mill, 0, 4, NONE, NONE);
        // To a declaration of the own module, if it is public.
        mill.bring(1, 0, 9, 8, true);
        mill.bring(0, 1, 8, 7, false);
        constant(mill, 0, 9, 0);
        isWithin(mill, 0, 7, 0, 9);
        mill.declare(0, 9, CONSTANT, false, 0, NONE, NONE);
        isWithin(mill, 0, 7, NONE, NONE);
        // By all: what is declared here, under another name there.
        constant(mill, 0, 9, 0);
        all(mill, 0, 1, false);
        isWithin(mill, 0, 8, 0, 9);
    }

    private static void whatOfWithin() {
        part = "what of within: 0 or 1";
        CutoffMill mill = withModules(3);
        mill.bring(0, 1, 15, 0, false);
        constant(mill, 1, 15, 0);
        same("within(0, 0, 0)", mill.within(0, 0, 0), 1);
        same("within(0, 0, 1)", mill.within(0, 0, 1), 15);
        for (int what : new int[] {-1, 2, Integer.MIN_VALUE, Integer.MAX_VALUE}) {
            refused(mill, ARGUMENT, () -> mill.within(0, 0, what));
            refused(mill, ARGUMENT, () -> mill.within(2, 9, what));
        }
    }

    private static void whatOfOutside() {
        part = "what of outside: 0 to 5";
        CutoffMill mill = withModules(2);
        mill.bring(0, 1, 15, 0, true);
        procedure(mill, 1, 15, -9, NONE, NONE);
        mill.build(8);
        int[] due = {1, 15, 0, 0, 1, -9};
        for (int what = 0; what <= 5; what++) same("outside(0, 0, " + what + ")", mill.outside(0, 0, what), due[what]);
        for (int what : new int[] {-1, 6, Integer.MIN_VALUE, Integer.MAX_VALUE}) {
            refused(mill, ARGUMENT, () -> mill.outside(0, 0, what));
            refused(mill, ARGUMENT, () -> mill.outside(0, 5, what));
        }
    }

    /** 0, if it is no DECLARATION. */
    private static void anAnswerThatIsNoDeclaration() {
        part = "an answer that is no declaration";
        CutoffMill mill = withModules(3);
        constant(mill, 1, 4, 5);
        constant(mill, 2, 4, 5);
        all(mill, 0, 1, true);
        all(mill, 0, 2, true);
        mill.declare(0, 7, CONSTANT, false, 5, NONE, NONE);
        mill.build(8);
        isOutside(mill, 0, 4, CLASH, CLASH);
        isAnswered(mill, 0, 4, 0, 0, 0, 0);
        isOutside(mill, 0, 5, NONE, NONE);
        isAnswered(mill, 0, 5, 0, 0, 0, 0);
        isOutside(mill, 0, 7, NONE, NONE);
        isAnswered(mill, 0, 7, 0, 0, 0, 0);
        isAnswered(mill, 1, 4, 1, 0, 0, 5);
    }

    /** If that MODULE was never BUILT, or without this DECLARATION, it is like a CONSTANT with FAULT 1 and the NUMBER 0. */
    private static void anAnswerBeforeItIsBuilt() {
        part = "an answer before it is built";
        for (int module = 0; module < 8; module += 7) {
            for (int name = 0; name <= 15; name += 15) {
                CutoffMill first = withModules(8);
                procedure(first, module, name, 5, NONE, NONE);
                isAnswered(first, module, name, 1, 1, 0, 0);
            }
        }
        CutoffMill mill = withModules(2);
        all(mill, 1, 0, true);
        procedure(mill, 0, 4, 5, NONE, NONE);
        isAnswered(mill, 0, 4, 1, 1, 0, 0);
        isAnswered(mill, 1, 4, 1, 1, 0, 0);
        mill.build(1);
        isAnswered(mill, 1, 4, 0, 0, 1, 5);
        procedure(mill, 0, 5, 5, NONE, NONE);
        isAnswered(mill, 0, 5, 1, 1, 0, 0);
        isAnswered(mill, 1, 5, 1, 1, 0, 0);
        // With another kind told since, it is still what it was built as.
        constant(mill, 0, 4, 6);
        isAnswered(mill, 1, 4, 0, 0, 1, 5);
        // Built, dropped and told again without a build between.
        mill.drop(0, 4);
        isAnswered(mill, 1, 4, 0, 0, 0, 0);
        constant(mill, 0, 4, 7);
        isAnswered(mill, 1, 4, 0, 0, 1, 5);
        mill.drop(0, 4);
        mill.build(8);
        constant(mill, 0, 4, 7);
        isAnswered(mill, 1, 4, 1, 1, 0, 0);
        isAnswered(mill, 1, 5, 0, 0, 1, 5);
    }

    /** Of each REFERENCE of its DECLARATIONS whose NAME is no DECLARATION of its own: .. */
    private static void whatIsLookedFor() {
        part = "what is looked for";
        CutoffMill mill = withModules(3);
        constant(mill, 1, 4, 0);
        one(mill, 0, 1, 4, true);
        all(mill, 0, 2, true);
        // What nobody refers to is not looked for, and NONE is no name.
        isOfModule(mill, 5, 0);
        constant(mill, 0, 0, 0, NONE, NONE);
        isOfModule(mill, 5, 0);
        procedure(mill, 0, 0, 0, NONE, 4);
        isOfModule(mill, 5, 1);
        procedure(mill, 0, 0, 0, 4, NONE);
        isOfModule(mill, 5, 1);
        // Without an import of one name: by all, whether it is something or not.
        procedure(mill, 0, 0, 0, 4, 15);
        isOfModule(mill, 5, 2);
        // What is declared here is not looked for, public or not, also itself.
        mill.declare(0, 15, CONSTANT, false, 0, 0, 15);
        isOfModule(mill, 5, 1);
        mill.drop(0, 15);
        isOfModule(mill, 5, 2);
        mill.drop(0, 0);
        isOfModule(mill, 5, 0);
        isOfModule(mill, 5, 0, 0, 0);
    }

    /** Each NAME in each MODULE once, those of its RING, too. */
    private static void lookedForOnce() {
        part = "looked for once";
        CutoffMill mill = withModules(3);
        mill.bring(0, 1, 4, 5, true);
        mill.bring(0, 1, 4, 6, false);
        mill.bring(0, 1, 3, 6, true);
        constant(mill, 0, 0, 0, 5, 5);
        isOfModule(mill, 5, 1);
        constant(mill, 0, 1, 0, 6, 5);
        // 5 and 6 are both name 4 of module 1; the second import under 6 is none that counts.
        isOfModule(mill, 5, 1);
        all(mill, 0, 1, true);
        constant(mill, 0, 2, 0, 4, NONE);
        isOfModule(mill, 5, 1);
        all(mill, 0, 1, false);
        isOfModule(mill, 5, 1);
        constant(mill, 0, 3, 0, NONE, 7);
        isOfModule(mill, 5, 2);
        // As one ring, it is looked for likewise.
        one(mill, 1, 0, 0, true);
        constant(mill, 1, 1, 0, 0, NONE);
        isOfModule(mill, 2, 0, 0, 2);
        isOfModule(mill, 5, 2, 1, 0);
    }

    /** The NAME in the MODULE of each IMPORT of ALL. */
    private static void lookedForInAll() {
        part = "looked for in all";
        CutoffMill mill = withModules(1);
        constant(mill, 0, 0, 0, 9, NONE);
        isOfModule(mill, 5, 0);
        for (int from = 1; from <= 5; from++) {
            all(mill, 0, from, from % 2 == 0);
            isOfModule(mill, 5, from);
        }
        // One in a module that is not there is looked for, too; an import of one name takes its place.
        mill.leave(0, 4);
        one(mill, 0, 7, 9, false);
        isOfModule(mill, 5, 1);
        mill.leave(0, 4);
        isOfModule(mill, 5, 4);
    }

    private static void theMostThatIsLookedFor() {
        part = "the most that is looked for";
        CutoffMill mill = withModules(2);
        for (int from = 1; from <= 5; from++) all(mill, 0, from, true);
        for (int name = 0; name < 6; name++) constant(mill, 0, name, 0, name + 6, name + 10);
        // The names 6 to 15, in five modules.
        isOfModule(mill, 5, 50);
        mill.build(8);
        isWhy(mill, 0, 0, NONE, NONE, NONE);
        constant(mill, 1, 15, 0);
        mill.build(1);
        isWhy(mill, 0, 4, 0, 1, 15);
        constant(mill, 1, 6, 0);
        mill.build(1);
        isWhy(mill, 0, 4, 0, 1, 6);
    }

    /** A MODULE LEANS ON each MODULE that is there and from which it has an IMPORT. */
    private static void leansOnWhatIsThere() {
        part = "a module leans on what is there";
        CutoffMill mill = withModules(1);
        for (int from = 3; from <= 7; from++) mill.bring(0, from, from == 4 ? NONE : 1, 0, from % 2 == 0);
        for (int count = 1; count <= 8; count++) {
            int due = 0;
            for (int from = 3; from < count; from++) due += 1 << from;
            isOfModule(mill, 4, due);
            if (count < 8) mill.module();
        }
        mill.leave(0, 4);
        isOfModule(mill, 4, 8 + 16 + 32 + 64);
        mill.bring(0, 3, 2, 2, false);
        isOfModule(mill, 4, 8 + 16 + 32 + 64);
        mill.leave(0, 0);
        isOfModule(mill, 4, 8 + 16 + 32 + 64);
        mill.leave(0, 3);
        isOfModule(mill, 4, 16 + 32 + 64);
        // Not over others.
        one(mill, 4, 2, 1, true);
        isOfModule(mill, 4, 16 + 32 + 64, 0, 0, 0, 4, 0, 0, 0);
    }

    /** MODULES that LEAN ON each other, over however many, or one that does not so with another one. */
    private static void ringsOfOneAndOfEight() {
        part = "rings of one and of eight";
        CutoffMill mill = withModules(8);
        isOfModule(mill, 2, 0, 1, 2, 3, 4, 5, 6, 7);
        same("many(3)", mill.many(3), 8);
        for (int module = 0; module < 7; module++) {
            one(mill, module, module + 1, 1, false);
            same("many(3)", mill.many(3), 8);
        }
        isOfModule(mill, 3, 7, 6, 5, 4, 3, 2, 1, 0);
        one(mill, 7, 0, 1, false);
        same("many(3)", mill.many(3), 1);
        isOfModule(mill, 2, 0, 0, 0, 0, 0, 0, 0, 0);
        isOfModule(mill, 3, 0, 0, 0, 0, 0, 0, 0, 0);
        same("stale ones", mill.many(4), 1);
        same("build(8)", mill.build(8), 1);
        isOfModule(mill, 6, 1, 1, 1, 1, 1, 1, 1, 1);
        mill.leave(3, 0);
        same("many(3)", mill.many(3), 8);
        isOfModule(mill, 2, 0, 1, 2, 3, 4, 5, 6, 7);
        isOfModule(mill, 3, 3, 2, 1, 0, 7, 6, 5, 4);
    }

    private static void leaningOneWayIsNoRing() {
        part = "leaning one way is no ring";
        CutoffMill mill = withModules(5);
        one(mill, 0, 1, 1, true);
        one(mill, 1, 0, 1, true);
        one(mill, 2, 3, 1, true);
        one(mill, 3, 2, 1, true);
        one(mill, 0, 3, 1, true);
        one(mill, 4, 1, 1, true);
        isOfModule(mill, 2, 0, 0, 2, 2, 4);
        isOfModule(mill, 3, 1, 1, 0, 0, 2);
        same("many(3)", mill.many(3), 3);
        one(mill, 2, 4, 1, true);
        isOfModule(mill, 2, 0, 0, 0, 0, 0);
        same("many(3)", mill.many(3), 1);
    }

    private static void ringsThatShareAModuleAreOne() {
        part = "rings that share a module are one";
        CutoffMill mill = withModules(6);
        one(mill, 5, 1, 1, true);
        one(mill, 1, 5, 1, true);
        one(mill, 5, 3, 1, true);
        one(mill, 3, 5, 1, true);
        isOfModule(mill, 2, 0, 1, 2, 1, 4, 1);
        isOfModule(mill, 3, 0, 1, 2, 1, 3, 1);
        // Over a module that is added later.
        one(mill, 0, 6, 1, true);
        isOfModule(mill, 2, 0, 1, 2, 1, 4, 1);
        mill.module();
        one(mill, 6, 0, 1, true);
        isOfModule(mill, 2, 0, 1, 2, 1, 4, 1, 0);
    }

    /** Each behind all on which one of its MODULES LEANS; of those that may come next, the one with the smallest number. */
    private static void theOrderOfRings() {
        part = "the order of rings";
        CutoffMill mill = withModules(8);
        isOfModule(mill, 3, 0, 1, 2, 3, 4, 5, 6, 7);
        one(mill, 0, 7, 1, true);
        // 0 comes as soon as it may, right behind 7.
        isOfModule(mill, 3, 7, 0, 1, 2, 3, 4, 5, 6);
        one(mill, 7, 3, 1, true);
        isOfModule(mill, 3, 7, 0, 1, 2, 3, 4, 5, 6);
        mill.leave(0, 0);
        one(mill, 0, 3, 1, true);
        isOfModule(mill, 3, 3, 0, 1, 2, 4, 5, 6, 7);
        // The ring of 4 and 6 is behind 5, as 6 leans on it; its number is 4.
        one(mill, 4, 6, 1, true);
        one(mill, 6, 4, 1, true);
        one(mill, 6, 5, 1, true);
        isOfModule(mill, 3, 3, 0, 1, 2, 5, 4, 5, 6);
        // The ring of 0 and 6 and 4: its number is 0 now.
        one(mill, 4, 0, 1, true);
        one(mill, 0, 6, 1, true);
        isOfModule(mill, 2, 0, 1, 2, 3, 0, 5, 0, 7);
        isOfModule(mill, 3, 4, 0, 1, 2, 4, 3, 4, 5);
    }

    private static void whatOfModule() {
        part = "what of a module: 0 to 8";
        CutoffMill mill = withModules(3);
        constant(mill, 2, 4, 1);
        constant(mill, 1, 0, 1, 4, 4);
        constant(mill, 1, 5, 1, 4, 9);
        all(mill, 1, 2, true);
        mill.build(8);
        constant(mill, 1, 5, 2, 4, 9);
        mill.build(8);
        constant(mill, 1, 5, 1, 4, 9);
        mill.build(8);
        mill.drop(1, 5);
        int[] due = {1, 1, 1, 2, 4, 1, 2, 1, 1};
        for (int what = 0; what <= 8; what++) same("ofModule(1, " + what + ")", mill.ofModule(1, what), due[what]);
        for (int what : new int[] {-1, 9, Integer.MIN_VALUE, Integer.MAX_VALUE}) {
            for (int module = 0; module < 3; module++) {
                int of = module;
                refused(mill, ARGUMENT, () -> mill.ofModule(of, what));
            }
        }
    }
}
