/** Part 3 of the document's terms, runs, and promises 11 to 14: states, faults, what is stale and why. */
public final class StateBoundaryTest extends Checks {
    public static void main(String[] args) {
        theFirstFaultIsTold();
        faultsOfOtherRings();
        aConstantThatComesBackToItself();
        comingBackOverManyConstants();
        comingBackOverRings();
        comingBackNotOverFaults();
        comingBackNotOverProcedures();
        comingBackGoesAheadOfLeading();
        faultsByTheFirstAndTheLastName();
        faultsLeadOverSeveral();
        smallOnes();
        smallOnesOverEightModules();
        whatComesBackIsNotSmall();
        numbersAreThoseOfConstantsAndSmallOnes();
        numbersGoRound();
        noNumberWithAFault();
        callsOfPAndQ();
        builtBeforeAndBehind();
        builtAsItWasLast();
        whatOfBuilt();
        faultsByModulesAndNames();
        faultsOfAllThereCanBe();
        faultsOfWhatIsFetched();
        whichFaultAndWhatOfIt();
        runOfWhatWasNotBuilt();
        runWithAFaultOnTheWay();
        runOf30InEachOther();
        runOf400InAll();
        runGoesRound();
        runAsBuiltLast();
        neverBuiltGoesFirst();
        anotherRingGoesSecond();
        aTextGoesThird();
        anAnswerGoesLast();
        theSmallestAnswerIsTold();
        whatOfWhy();
        whatIsPartOfAnAnswer();
        whichOneItIsIsPartOfAnAnswer();
        whatIsNoPartOfAnAnswer();
        notedWhereNothingIsThere();
        notedOfTheRingItself();
        takenBackIsNotStale();
        end();
    }

    // ---- faults

    /**
     * In module 2: 0 is a clash, 1 a procedure, 2 a constant, 3 a constant with fault 1, 4 the one
     * that is tried, 9 unbound.
     */
    private static CutoffMill withAllKinds() {
        CutoffMill mill = withModules(3);
        constant(mill, 0, 0, 1);
        constant(mill, 1, 0, 1);
        procedure(mill, 0, 1, 10, NONE, NONE);
        constant(mill, 1, 2, 20);
        constant(mill, 0, 3, 1, 9, NONE);
        all(mill, 2, 0, false);
        all(mill, 2, 1, false);
        return mill;
    }

    /** FAULT, the first of: 1 .., 2 .., 3 ..; likewise of q; 4 ..; 5 .. */
    private static void theFirstFaultIsTold() {
        part = "the first fault is told";
        int[] names = {NONE, 9, 0, 1, 2, 3, 4};
        int[] ofConstant = {0, 1, 2, 3, 0, 0, 0};
        int[] ofProcedure = {0, 1, 2, 0, 0, 0, 0};
        for (int kind = 0; kind <= 1; kind++) {
            for (int p = 0; p < names.length; p++) {
                CutoffMill mill = withAllKinds();
                for (int q = 0; q < names.length; q++) {
                    mill.declare(2, 4, kind, true, 5, names[p], names[q]);
                    mill.build(8);
                    int[] direct = kind == CONSTANT ? ofConstant : ofProcedure;
                    int due = direct[p] != 0 ? direct[p] : direct[q];
                    boolean isBack = p == 6 || q == 6;
                    if (due == 0 && isBack && kind == CONSTANT) due = 4;
                    if (due == 0 && (p == 5 || q == 5)) due = 5;
                    boolean isSmall = kind == PROCEDURE && due == 0 && !isBack;
                    int number = due != 0 ? 0 : 5 + (p == 4 ? 20 : 0) + (q == 4 ? 20 : 0) + (p == 3 ? 10 : 0) + (q == 3 ? 10 : 0);
                    int calls = due != 0 || kind == CONSTANT ? 0 : (p == 6 ? 1 : 0) + (q == 6 ? 1 : 0);
                    isBuilt(mill, 2, 4, due, isSmall ? 1 : 0, number, calls, calls == 0 ? NONE : 2, calls == 0 ? NONE : 4);
                }
            }
        }
    }

    /** Those of other RINGS have that with which they were BUILT last, the kind, too. */
    private static void faultsOfOtherRings() {
        part = "faults of other rings";
        CutoffMill mill = withModules(3);
        procedure(mill, 0, 1, 5, NONE, NONE);
        all(mill, 1, 0, true);
        constant(mill, 1, 2, 0, 1, NONE);
        all(mill, 2, 1, true);
        constant(mill, 2, 3, 0, 2, NONE);
        mill.build(8);
        hasFaults(mill, 3, 1, 2, 5, 2, 3);
        constant(mill, 0, 1, 5);
        // The kind is told anew, but built is still the procedure.
        mill.build(1);
        isBuilt(mill, 1, 2, 3);
        mill.build(1);
        hasFaults(mill, 5, 2, 3);
        mill.build(1);
        hasFaults(mill);
        isBuilt(mill, 2, 3, 0, 0, 5);
        procedure(mill, 1, 4, 0, 3, NONE);
        mill.build(8);
        hasFaults(mill, 1, 1, 4);
    }

    /** 4 it is a CONSTANT that comes back to itself. */
    private static void aConstantThatComesBackToItself() {
        part = "a constant that comes back to itself";
        CutoffMill mill = withModules(1);
        constant(mill, 0, 0, 1, 0, NONE);
        constant(mill, 0, 1, 1, NONE, 1);
        constant(mill, 0, 2, 1, 2, 2);
        constant(mill, 0, 3, 1, 4, NONE);
        constant(mill, 0, 4, 1, NONE, 3);
        constant(mill, 0, 15, 1, NONE, NONE);
        mill.build(8);
        hasFaults(mill, 4, 0, 0, 4, 0, 1, 4, 0, 2, 4, 0, 3, 4, 0, 4);
        isBuilt(mill, 0, 15, 0, 0, 1);
    }

    private static void comingBackOverManyConstants() {
        part = "coming back over many constants";
        CutoffMill mill = withModules(8);
        // Down from name 5 to name 0 of a module, then to name 5 of the next one.
        for (int module = 0; module < 8; module++) {
            mill.bring(module, (module + 1) % 8, 5, 8, false);
            for (int name = 0; name < 6; name++) constant(mill, module, name, 1, name == 0 ? 8 : name - 1, NONE);
        }
        mill.build(8);
        same("all 48 come back", mill.many(5), 48);
        for (int k = 0; k < 48; k++) same("fault(" + k + ", 0)", mill.fault(k, 0), 4);
        // As one of them goes elsewhere, none comes back.
        constant(mill, 5, 3, 1);
        mill.build(8);
        hasFaults(mill);
        isBuilt(mill, 5, 3, 0, 0, 1);
        isBuilt(mill, 5, 4, 0, 0, 2);
        isBuilt(mill, 5, 2, 0, 0, 48);
    }

    /** All of them together, over the MODULES of the RING. */
    private static void comingBackOverRings() {
        part = "coming back over the modules of a ring";
        CutoffMill mill = withModules(3);
        one(mill, 0, 1, 1, false);
        one(mill, 1, 2, 2, false);
        one(mill, 2, 0, 0, false);
        constant(mill, 0, 0, 1, NONE, 1);
        constant(mill, 1, 1, 1, 2, NONE);
        constant(mill, 2, 2, 1, NONE, 0);
        constant(mill, 2, 3, 1, 0, NONE);
        mill.build(8);
        hasFaults(mill, 4, 0, 0, 4, 1, 1, 4, 2, 2, 5, 2, 3);
    }

    /** Over REFERENCES of CONSTANTS without a FAULT of 1 to 3. */
    private static void comingBackNotOverFaults() {
        part = "coming back, not over one with a fault of 1 to 3";
        int[] faulty = {9, 0, 1};
        for (int fault = 1; fault <= 3; fault++) {
            CutoffMill mill = withAllKinds();
            constant(mill, 2, 4, 1, 5, NONE);
            constant(mill, 2, 5, 1, NONE, 6);
            constant(mill, 2, 6, 1, 4, faulty[fault - 1]);
            mill.build(8);
            hasFaults(mill, 1, 0, 3, 5, 2, 4, 5, 2, 5, fault, 2, 6);
            constant(mill, 2, 6, 1, faulty[fault - 1], 4);
            mill.build(8);
            hasFaults(mill, 1, 0, 3, 5, 2, 4, 5, 2, 5, fault, 2, 6);
            // It comes back over another way, too: that one is good.
            constant(mill, 2, 5, 1, 4, 6);
            mill.build(8);
            hasFaults(mill, 1, 0, 3, 4, 2, 4, 4, 2, 5, fault, 2, 6);
            constant(mill, 2, 5, 1, NONE, 6);
            constant(mill, 2, 6, 1, 4, NONE);
            mill.build(8);
            hasFaults(mill, 1, 0, 3, 4, 2, 4, 4, 2, 5, 4, 2, 6);
        }
    }

    private static void comingBackNotOverProcedures() {
        part = "coming back, not over procedures";
        CutoffMill mill = withModules(1);
        constant(mill, 0, 0, 1, 1, NONE);
        procedure(mill, 0, 1, 1, 2, NONE);
        constant(mill, 0, 2, 1, 0, NONE);
        mill.build(8);
        hasFaults(mill, 3, 0, 0, 5, 0, 1, 5, 0, 2);
        procedure(mill, 0, 0, 1, 1, NONE);
        procedure(mill, 0, 2, 1, 0, NONE);
        mill.build(8);
        hasFaults(mill);
        isBuilt(mill, 0, 0, 0, 0, 1, 1, 0, 1);
    }

    /** 4 .. (one that only leads to such has 5). */
    private static void comingBackGoesAheadOfLeading() {
        part = "coming back goes ahead of leading to a fault";
        CutoffMill mill = withModules(1);
        constant(mill, 0, 0, 1, 1, 9);
        constant(mill, 0, 1, 1, 0, 1);
        // 0 is unbound first of all, 1 comes back to itself and leads to it.
        constant(mill, 0, 2, 1, 1, NONE);
        procedure(mill, 0, 3, 1, NONE, 2);
        constant(mill, 0, 4, 1, 5, 2);
        constant(mill, 0, 5, 1, 4, 4);
        mill.build(8);
        hasFaults(mill, 1, 0, 0, 4, 0, 1, 5, 0, 2, 5, 0, 3, 4, 0, 4, 4, 0, 5);
        constant(mill, 0, 0, 1, 0, 9);
        mill.build(8);
        isBuilt(mill, 0, 0, 1, 0, 0, 0, NONE, NONE);
    }

    private static void faultsByTheFirstAndTheLastName() {
        part = "faults by the first and the last name";
        for (int name = 0; name <= 15; name += 15) {
            CutoffMill mill = withModules(8);
            int to = name == 0 ? 0 : 7;
            int by = 7 - to;
            mill.bring(by, to, name, 15 - name, false);
            int self = 15 - name == 0 ? 1 : 14;
            constant(mill, by, self, 1, NONE, 15 - name);
            mill.build(8);
            hasFaults(mill, 1, by, self);
            constant(mill, to, name, 5);
            mill.build(8);
            hasFaults(mill);
            procedure(mill, to, name, 5, NONE, NONE);
            mill.build(8);
            hasFaults(mill, 3, by, self);
            procedure(mill, by, self, 1, 15 - name, NONE);
            mill.build(8);
            isBuilt(mill, by, self, 0, 1, 6);
            procedure(mill, to, name, 5, name, NONE);
            mill.build(8);
            isBuilt(mill, by, self, 0, 0, 1, 1, to, name);
            constant(mill, to, name, 5, name, NONE);
            mill.build(8);
            isBuilt(mill, by, self, 5);
            isBuilt(mill, to, name, 4);
        }
    }

    /** 5 p or q is one with a FAULT (also over several). */
    private static void faultsLeadOverSeveral() {
        part = "faults lead over several";
        CutoffMill mill = withModules(8);
        for (int module = 0; module < 8; module++) {
            if (module > 0) mill.bring(module, module - 1, 5, 15, false);
            for (int name = 0; name < 6; name++) {
                int to = name > 0 ? name - 1 : module > 0 ? 15 : 14;
                mill.declare(module, name, name % 2 == 0 ? CONSTANT : PROCEDURE, true, 1, name % 4 == 0 ? to : NONE, name % 4 == 0 ? NONE : to);
            }
        }
        mill.build(8);
        same("all 48 have a fault", mill.many(5), 48);
        // A constant of which the one before it is a procedure has 3, the first one of all has 1.
        for (int k = 0; k < 48; k++) same("fault(" + k + ", 0)", mill.fault(k, 0), k == 0 ? 1 : k % 2 == 0 ? 3 : 5);
        for (int k = 0; k < 48; k++) procedure(mill, k / 6, k % 6, 1, k % 6 > 0 ? k % 6 - 1 : k > 0 ? 15 : 14, NONE);
        mill.build(8);
        for (int k = 0; k < 48; k++) same("fault(" + k + ", 0)", mill.fault(k, 0), k == 0 ? 1 : 5);
        procedure(mill, 0, 0, 1, NONE, NONE);
        mill.build(8);
        hasFaults(mill);
        isBuilt(mill, 7, 5, 0, 1, 48);
        // Those that come back to themselves, and one of them leads to a fault.
        procedure(mill, 0, 0, 1, 5, NONE);
        procedure(mill, 0, 3, 1, 2, 9);
        mill.build(1);
        hasFaults(mill, 5, 0, 0, 5, 0, 1, 5, 0, 2, 1, 0, 3, 5, 0, 4, 5, 0, 5);
    }

    // ---- small ones, numbers, calls

    /** A PROCEDURE without FAULT of which p and q, where there are such, are CONSTANTS, or SMALL. */
    private static void smallOnes() {
        part = "small ones";
        CutoffMill mill = withModules(1);
        constant(mill, 0, 0, 1);
        procedure(mill, 0, 1, 2, NONE, NONE);
        procedure(mill, 0, 2, 4, 0, NONE);
        procedure(mill, 0, 3, 8, NONE, 1);
        procedure(mill, 0, 4, 16, 0, 3);
        procedure(mill, 0, 5, 32, 4, 4);
        mill.build(8);
        isBuilt(mill, 0, 0, 0, 0, 1, 0, NONE, NONE);
        isBuilt(mill, 0, 1, 0, 1, 2, 0, NONE, NONE);
        isBuilt(mill, 0, 2, 0, 1, 5, 0, NONE, NONE);
        isBuilt(mill, 0, 3, 0, 1, 10, 0, NONE, NONE);
        isBuilt(mill, 0, 4, 0, 1, 27, 0, NONE, NONE);
        isBuilt(mill, 0, 5, 0, 1, 86, 0, NONE, NONE);
        // Without a FAULT.
        procedure(mill, 0, 3, 8, 9, 1);
        mill.build(8);
        isBuilt(mill, 0, 3, 1, 0, 0, 0, NONE, NONE);
        isBuilt(mill, 0, 5, 5, 0, 0, 0, NONE, NONE);
        isAnswered(mill, 0, 5, 0, 1, 0, 0);
    }

    private static void smallOnesOverEightModules() {
        part = "small ones over eight modules";
        CutoffMill mill = withModules(8);
        for (int k = 0; k < 48; k++) {
            if (k % 6 == 0 && k > 0) mill.bring(k / 6, k / 6 - 1, 0, 15, false);
            // Upwards, so that each refers to one that is told behind it.
            procedure(mill, k / 6, k % 6, 1, k % 6 < 5 ? k % 6 + 1 : k > 5 ? 15 : NONE, NONE);
        }
        mill.build(8);
        for (int k = 0; k < 48; k++) isBuilt(mill, k / 6, k % 6, 0, 1, k / 6 * 6 + 6 - k % 6);
        same("run of the last one", mill.run(7, 0), 48);
    }

    /** Those that come back to themselves are not. */
    private static void whatComesBackIsNotSmall() {
        part = "what comes back is not small";
        CutoffMill mill = withModules(2);
        all(mill, 0, 1, false);
        all(mill, 1, 0, false);
        procedure(mill, 0, 0, 1, 1, NONE);
        procedure(mill, 1, 1, 2, NONE, 0);
        procedure(mill, 0, 2, 4, 1, 5);
        procedure(mill, 1, 3, 8, 2, 2);
        procedure(mill, 0, 4, 16, 4, 5);
        constant(mill, 1, 5, 32);
        mill.build(8);
        isBuilt(mill, 0, 0, 0, 0, 1, 1, 1, 1);
        isBuilt(mill, 1, 1, 0, 0, 2, 1, 0, 0);
        isBuilt(mill, 0, 2, 0, 0, 36, 1, 1, 1);
        isBuilt(mill, 1, 3, 0, 0, 8, 2, 0, 2);
        isBuilt(mill, 0, 4, 0, 0, 48, 1, 0, 4);
        for (int name = 0; name < 5; name++) same("run", mill.run(name % 2, name), FAILED);
        procedure(mill, 0, 0, 1, NONE, NONE);
        mill.build(8);
        isBuilt(mill, 1, 3, 0, 1, 8 + 2 * (4 + 32 + 2 + 1));
    }

    /** The number, and the NUMBERS of p and q, if these are CONSTANTS or SMALL. */
    private static void numbersAreThoseOfConstantsAndSmallOnes() {
        part = "numbers are those of constants and small ones";
        CutoffMill mill = withModules(1);
        constant(mill, 0, 0, -99);
        constant(mill, 0, 1, 50, 0, 0);
        procedure(mill, 0, 2, 3, NONE, 1);
        procedure(mill, 0, 3, 0, 3, 2);
        procedure(mill, 0, 4, -1, 3, 3);
        procedure(mill, 0, 5, 9, 1, 4);
        mill.build(8);
        isBuilt(mill, 0, 1, 0, 0, -148);
        isBuilt(mill, 0, 2, 0, 1, -145);
        isBuilt(mill, 0, 3, 0, 0, -145, 1, 0, 3);
        isBuilt(mill, 0, 4, 0, 0, -1, 2, 0, 3);
        isBuilt(mill, 0, 5, 0, 0, -139, 1, 0, 4);
        // An answer tells no number of one that is not small.
        isAnswered(mill, 0, 5, 0, 0, 0, 0);
    }

    /** Name 0 of module 4 is 99 * 2^24, and name 1 twice as much, but for going round. */
    private static CutoffMill withLargeNumbers(int sign) {
        CutoffMill mill = withModules(8);
        for (int k = 0; k <= 25; k++) {
            int to = k % 6 > 0 ? k % 6 - 1 : k > 0 ? 15 : NONE;
            if (k % 6 == 0 && k > 0) mill.bring(k / 6, k / 6 - 1, 5, 15, false);
            constant(mill, k / 6, k % 6, k == 0 ? 99 * sign : 0, to, to);
        }
        return mill;
    }

    /** All numbers are whole, and go round as ints do. */
    private static void numbersGoRound() {
        part = "numbers go round";
        for (int sign = -1; sign <= 1; sign += 2) {
            CutoffMill mill = withLargeNumbers(sign);
            all(mill, 5, 4, true);
            procedure(mill, 5, 2, 7, 0, 0);
            procedure(mill, 5, 3, 7, 0, 3);
            constant(mill, 5, 4, 0, 1, 1);
            procedure(mill, 5, 5, 0, 1, 4);
            mill.build(8);
            int large = sign * 99 << 24;
            isBuilt(mill, 4, 0, 0, 0, large);
            isBuilt(mill, 4, 1, 0, 0, 2 * large);
            same("it has gone round", 2 * large, 2L * large - sign * (1L << 32));
            isBuilt(mill, 5, 2, 0, 1, 2 * large + 7);
            isAnswered(mill, 5, 2, 0, 0, 1, 2 * large + 7);
            isBuilt(mill, 5, 3, 0, 0, large + 7, 1, 5, 3);
            isAnswered(mill, 5, 3, 0, 0, 0, 0);
            isBuilt(mill, 5, 4, 0, 0, 4 * large);
            isAnswered(mill, 5, 4, 1, 0, 0, 4 * large);
            isBuilt(mill, 5, 5, 0, 1, 6 * large);
            same("run", mill.run(5, 5), 6 * large);
            same("run", mill.run(4, 1), 2 * large);
        }
    }

    /** 0 with a FAULT; none with a FAULT. */
    private static void noNumberWithAFault() {
        part = "no number and no call with a fault";
        CutoffMill mill = withModules(2);
        constant(mill, 0, 0, 99, 9, NONE);
        constant(mill, 0, 1, 99, 1, NONE);
        procedure(mill, 0, 2, 99, 2, 0);
        procedure(mill, 0, 3, 99, 3, 9);
        procedure(mill, 0, 4, 99, 4, 4);
        constant(mill, 0, 5, 99, 4, NONE);
        mill.build(8);
        int[] due = {1, 4, 5, 1, 0, 3};
        for (int name = 0; name < 6; name++) {
            if (name != 4) isBuilt(mill, 0, name, due[name], 0, 0, 0, NONE, NONE);
            isAnswered(mill, 0, name, name < 2 || name == 5 ? 1 : 0, name == 4 ? 0 : 1, 0, 0);
        }
        isBuilt(mill, 0, 4, 0, 0, 99, 2, 0, 4);
        // However much was built before, with a number and calls of the same name.
        for (int k = 0; k < 40; k++) {
            procedure(mill, 1, 7, k, k % 3 == 2 ? 9 : 7, 7);
            mill.build(8);
            isBuilt(mill, 1, 7, k % 3 == 2 ? 1 : 0, 0, k % 3 == 2 ? 0 : k, k % 3 == 2 ? 0 : 2, k % 3 == 2 ? NONE : 1);
        }
    }

    /** Those of p and q that are PROCEDURES, and not SMALL; p and q each for itself, also if they are the same. */
    private static void callsOfPAndQ() {
        part = "calls of p and q";
        CutoffMill mill = withModules(2);
        procedure(mill, 0, 0, 1, 0, NONE);
        procedure(mill, 0, 1, 2, NONE, 1);
        procedure(mill, 0, 2, 4, NONE, NONE);
        all(mill, 1, 0, true);
        int[][] calls = {{NONE, NONE, 0, NONE}, {2, 2, 0, NONE}, {0, NONE, 1, 0}, {NONE, 0, 1, 0}, {2, 0, 1, 0}, {0, 2, 1, 0},
            {0, 1, 2, 0}, {1, 0, 2, 1}, {1, 1, 2, 1}};
        for (int[] c : calls) {
            procedure(mill, 1, 9, 8, c[0], c[1]);
            mill.build(8);
            int small = (c[0] == 2 ? 4 : 0) + (c[1] == 2 ? 4 : 0);
            isBuilt(mill, 1, 9, 0, c[2] == 0 ? 1 : 0, 8 + small, c[2], c[2] == 0 ? NONE : 0, c[3]);
        }
        // Under which name it is brought is no part of it.
        mill.bring(1, 0, 1, 14, false);
        procedure(mill, 1, 9, 8, 14, 0);
        mill.build(8);
        isBuilt(mill, 1, 9, 0, 0, 8, 2, 0, 1);
    }

    // ---- built, fault, run

    /** NONE, if it was not BUILT, or without such a DECLARATION. */
    private static void builtBeforeAndBehind() {
        part = "built before and behind";
        CutoffMill mill = withModules(2);
        constant(mill, 0, 0, 3);
        procedure(mill, 0, 15, 3, 0, 0);
        for (int name = 0; name <= 15; name++) isBuilt(mill, 0, name, NONE, NONE, NONE, NONE, NONE, NONE);
        mill.build(1);
        for (int name = 1; name <= 14; name++) isBuilt(mill, 0, name, NONE, NONE, NONE, NONE, NONE, NONE);
        isBuilt(mill, 0, 0, 0, 0, 3, 0, NONE, NONE);
        isBuilt(mill, 0, 15, 0, 1, 9, 0, NONE, NONE);
        for (int name = 0; name <= 15; name++) isBuilt(mill, 1, name, NONE, NONE, NONE, NONE, NONE, NONE);
    }

    /** Of the DECLARATION of it, as it was BUILT last. */
    private static void builtAsItWasLast() {
        part = "built as it was last";
        CutoffMill mill = withModules(1);
        procedure(mill, 0, 4, 5, 4, 9);
        mill.build(8);
        isBuilt(mill, 0, 4, 1, 0, 0, 0, NONE, NONE);
        procedure(mill, 0, 4, 6, NONE, NONE);
        isBuilt(mill, 0, 4, 1, 0, 0, 0, NONE, NONE);
        hasFaults(mill, 1, 0, 4);
        mill.drop(0, 4);
        isBuilt(mill, 0, 4, 1, 0, 0, 0, NONE, NONE);
        hasFaults(mill, 1, 0, 4);
        mill.build(8);
        isBuilt(mill, 0, 4, NONE, NONE, NONE, NONE, NONE, NONE);
        hasFaults(mill);
        procedure(mill, 0, 4, 5, 4, 9);
        isBuilt(mill, 0, 4, NONE, NONE, NONE, NONE, NONE, NONE);
        renews(mill, 0, 1);
        isBuilt(mill, 0, 4, 1, 0, 0, 0, NONE, NONE);
        hasFaults(mill, 1, 0, 4);
    }

    private static void whatOfBuilt() {
        part = "what of built: 0 to 5";
        CutoffMill mill = withModules(3);
        all(mill, 2, 1, false);
        procedure(mill, 1, 4, 0, 4, NONE);
        procedure(mill, 2, 5, 6, 4, 4);
        mill.build(8);
        int[] due = {0, 0, 6, 2, 1, 4};
        for (int what = 0; what <= 5; what++) same("built(2, 5, " + what + ")", mill.built(2, 5, what), due[what]);
        for (int what : new int[] {-1, 6, Integer.MIN_VALUE, Integer.MAX_VALUE}) {
            refused(mill, ARGUMENT, () -> mill.built(2, 5, what));
            refused(mill, ARGUMENT, () -> mill.built(0, 9, what));
        }
    }

    /** MODULE by MODULE, by NAMES. */
    private static void faultsByModulesAndNames() {
        part = "faults by modules and names";
        CutoffMill mill = withModules(3);
        hasFaults(mill);
        constant(mill, 2, 0, 1, 0, NONE);
        constant(mill, 0, 15, 1, 9, NONE);
        constant(mill, 2, 15, 1, NONE, 0);
        constant(mill, 0, 0, 1, NONE, 9);
        constant(mill, 1, 7, 1, NONE, NONE);
        hasFaults(mill);
        mill.build(8);
        hasFaults(mill, 1, 0, 0, 1, 0, 15, 4, 2, 0, 5, 2, 15);
    }

    private static void faultsOfAllThereCanBe() {
        part = "faults of all there can be";
        CutoffMill mill = withModules(8);
        for (int k = 0; k < 48; k++) procedure(mill, k / 6, 10 + k % 6, 1, 9, 9);
        mill.build(7);
        same("many(5)", mill.many(5), 42);
        mill.build(1);
        same("many(5)", mill.many(5), 48);
        for (int k = 0; k < 48; k++) {
            same("fault(" + k + ", 0)", mill.fault(k, 0), 1);
            same("fault(" + k + ", 1)", mill.fault(k, 1), k / 6);
            same("fault(" + k + ", 2)", mill.fault(k, 2), 10 + k % 6);
        }
        refused(mill, INDEX, () -> mill.fault(48, 0));
    }

    /** As they were BUILT (or FETCHED) last. */
    private static void faultsOfWhatIsFetched() {
        part = "faults of what is fetched";
        CutoffMill mill = withModules(1);
        constant(mill, 0, 4, 1, 9, NONE);
        renews(mill, 1, 0);
        constant(mill, 0, 4, 1);
        renews(mill, 1, 0);
        hasFaults(mill);
        constant(mill, 0, 4, 1, 9, NONE);
        hasFaults(mill);
        renews(mill, 0, 1);
        hasFaults(mill, 1, 0, 4);
        constant(mill, 0, 4, 1);
        hasFaults(mill, 1, 0, 4);
        renews(mill, 0, 1);
        hasFaults(mill);
    }

    private static void whichFaultAndWhatOfIt() {
        part = "which fault: from 0, and what of it: 0 to 2";
        CutoffMill mill = withModules(2);
        constant(mill, 0, 3, 1, 9, NONE);
        constant(mill, 1, 5, 1, 5, NONE);
        mill.build(8);
        for (int k : new int[] {-1, 2, Integer.MIN_VALUE, Integer.MAX_VALUE}) {
            for (int what = -1; what <= 3; what++) {
                int of = what;
                refused(mill, INDEX, () -> mill.fault(k, of));
            }
        }
        for (int what : new int[] {-1, 3, Integer.MIN_VALUE, Integer.MAX_VALUE}) {
            refused(mill, ARGUMENT, () -> mill.fault(0, what));
            refused(mill, ARGUMENT, () -> mill.fault(1, what));
        }
        hasFaults(mill, 1, 0, 3, 4, 1, 5);
    }

    /** -1000000, if something on the way .. was not BUILT. */
    private static void runOfWhatWasNotBuilt() {
        part = "run of what was not built";
        CutoffMill mill = withModules(2);
        constant(mill, 0, 0, -99);
        procedure(mill, 0, 15, 99, NONE, NONE);
        for (int name = 0; name <= 15; name++) same("run", mill.run(0, name), FAILED);
        mill.build(8);
        for (int name = 0; name <= 15; name++) {
            same("run", mill.run(0, name), name == 0 ? -99 : name == 15 ? 99 : FAILED);
            same("run in an empty module", mill.run(1, name), FAILED);
        }
        constant(mill, 0, 7, 7);
        same("run of what is told since", mill.run(0, 7), FAILED);
    }

    private static void runWithAFaultOnTheWay() {
        part = "run with a fault on the way";
        CutoffMill mill = withModules(3);
        procedure(mill, 0, 0, 1, 0, NONE);
        procedure(mill, 0, 1, 1, 1, NONE);
        all(mill, 1, 0, true);
        procedure(mill, 1, 2, 10, 0, 1);
        all(mill, 2, 1, true);
        procedure(mill, 2, 3, 100 - 1, 2, NONE);
        mill.build(8);
        procedure(mill, 0, 0, 1, NONE, NONE);
        procedure(mill, 0, 1, 3, 9, NONE);
        mill.build(1);
        // Of two calls the second one has a fault.
        same("run", mill.run(1, 2), FAILED);
        same("run", mill.run(2, 3), FAILED);
        same("run", mill.run(0, 0), 1);
        procedure(mill, 0, 1, 3, NONE, NONE);
        mill.build(1);
        same("run", mill.run(1, 2), 14);
        same("run", mill.run(2, 3), 113);
        constant(mill, 0, 0, 1, 0, NONE);
        mill.build(1);
        same("run", mill.run(1, 2), FAILED);
        mill.drop(0, 0);
        mill.build(1);
        same("run", mill.run(2, 3), FAILED);
    }

    /**
     * Calls in modules 1 to 7, each to the one before it, down to name 15 of module 0, that is small,
     * as it was built behind the others: name n of module m is (m - 1) * 6 + n + 1 calls above it.
     */
    private static CutoffMill chain() {
        CutoffMill mill = withModules(8);
        procedure(mill, 0, 15, 50, 15, NONE);
        for (int module = 1; module < 8; module++) {
            mill.bring(module, module - 1, module == 1 ? 15 : 5, 15, false);
            for (int name = 0; name < 6; name++) procedure(mill, module, name, 1, name == 0 ? 15 : name - 1, NONE);
        }
        mill.build(8);
        procedure(mill, 0, 15, 50, NONE, NONE);
        mill.build(1);
        return mill;
    }

    /** Or is more than 30 CALLS in each other beneath it. */
    private static void runOf30InEachOther() {
        part = "run of 30 calls in each other";
        CutoffMill mill = chain();
        for (int k = 0; k < 42; k++) {
            int calls = k + 1;
            same("run over " + calls + " calls", mill.run(k / 6 + 1, k % 6), calls <= 30 ? 50 + calls : FAILED);
        }
        isBuilt(mill, 5, 5, 0, 0, 1, 1, 5, 4);
    }

    /** Or if there are more than 400 in all. */
    private static void runOf400InAll() {
        part = "run of 400 calls in all";
        CutoffMill mill = withModules(4);
        procedure(mill, 0, 0, 1, 0, NONE);
        for (int module = 1; module < 4; module++) all(mill, module, 0, true);
        for (int module = 1; module < 3; module++) all(mill, module + 1, module, true);
        // Each calls the one before it once or twice: so many calls are beneath it.
        int[] twice = {0, 1, 1, 1, 0, 1, 1, 1, 0, 1, 0, 1};
        int[] due = {1, 4, 10, 22, 23, 48, 98, 198, 199, 400, 401, 804};
        for (int k = 0; k < 12; k++) {
            procedure(mill, 1 + k / 6, k + 1, 0, k, twice[k] == 1 ? k : NONE);
        }
        // 398 in all, and beside them, by q, as many, or one more.
        procedure(mill, 3, 13, 0, 8, 8);
        procedure(mill, 3, 14, 0, 13, 13);
        procedure(mill, 3, 15, 0, 13, 0);
        mill.build(8);
        procedure(mill, 0, 0, 1, NONE, NONE);
        mill.build(1);
        int[] sums = new int[12];
        for (int k = 0; k < 12; k++) {
            sums[k] = (k == 0 ? 1 : sums[k - 1]) * (twice[k] + 1);
            same("run over " + due[k] + " calls", mill.run(1 + k / 6, k + 1), due[k] <= 400 ? sums[k] : FAILED);
        }
        same("run over 398 calls", mill.run(3, 13), 2 * sums[7]);
        same("run over 798 calls", mill.run(3, 14), FAILED);
        same("run over 400 calls by two ways", mill.run(3, 15), 2 * sums[7] + 1);
    }

    private static void runGoesRound() {
        part = "run goes round";
        for (int sign = -1; sign <= 1; sign += 2) {
            CutoffMill mill = withLargeNumbers(sign);
            all(mill, 5, 4, false);
            procedure(mill, 5, 15, 0, 15, NONE);
            all(mill, 6, 4, false);
            all(mill, 6, 5, false);
            procedure(mill, 6, 14, 3, 0, 15);
            procedure(mill, 6, 13, 3, 15, 14);
            mill.build(8);
            procedure(mill, 5, 15, 5, 0, NONE);
            mill.build(1);
            int large = sign * 99 << 24;
            same("run without a call", mill.run(5, 15), large + 5);
            same("run over a call", mill.run(6, 14), 2 * large + 8);
            same("it has gone round", mill.run(6, 14), 2L * large + 8 - sign * (1L << 32));
            same("run over three", mill.run(6, 13), 3 * large + 16);
        }
    }

    /** Its NUMBER, and what its CALLS give, p first, each as it was BUILT last. */
    private static void runAsBuiltLast() {
        part = "run as built last";
        CutoffMill mill = withModules(2);
        procedure(mill, 0, 0, 1, 0, NONE);
        all(mill, 1, 0, true);
        procedure(mill, 1, 1, 10, 0, 0);
        mill.build(8);
        same("run", mill.run(1, 1), FAILED);
        procedure(mill, 0, 0, 2, NONE, NONE);
        same("run, where it is told but not built", mill.run(1, 1), FAILED);
        mill.build(1);
        same("run", mill.run(1, 1), 14);
        constant(mill, 0, 0, 3);
        same("run, where it is told but not built", mill.run(1, 1), 14);
        mill.build(1);
        same("run, where it is a constant", mill.run(1, 1), 16);
        procedure(mill, 0, 0, 1, 0, NONE);
        mill.build(1);
        same("run, where it is as it was", mill.run(1, 1), FAILED);
        mill.drop(1, 1);
        constant(mill, 0, 0, 4);
        mill.build(1);
        same("run of what is dropped", mill.run(1, 1), 18);
        mill.build(1);
        same("run of what is dropped and built so", mill.run(1, 1), FAILED);
    }

    // ---- why

    /** 1 a MODULE of it was never BUILT: the MODULE with the smallest number of which that is so. */
    private static void neverBuiltGoesFirst() {
        part = "never built goes first";
        CutoffMill mill = withModules(5);
        for (int module = 0; module < 5; module++) isWhy(mill, module, 1, module, NONE, NONE);
        mill.build(2);
        for (int module = 0; module < 5; module++) isWhy(mill, module, module < 2 ? 0 : 1, module < 2 ? NONE : module, NONE, NONE);
        // A ring of 1, 2 and 4: 2 was never built; it is another ring, too, and other texts.
        one(mill, 1, 2, 9, true);
        one(mill, 2, 4, 9, true);
        one(mill, 4, 1, 9, true);
        constant(mill, 1, 3, 3, 9, NONE);
        for (int module = 1; module < 5; module++) isWhy(mill, module, 1, module == 3 ? 3 : 2, NONE, NONE);
        mill.build(1);
        isWhy(mill, 4, 0, NONE, NONE, NONE);
        isWhy(mill, 3, 1, 3, NONE, NONE);
    }

    /** 2 one of its MODULES was BUILT last in another RING: that which stands for the RING. */
    private static void anotherRingGoesSecond() {
        part = "another ring goes second";
        CutoffMill mill = withModules(5);
        one(mill, 1, 2, 9, true);
        one(mill, 2, 3, 9, true);
        mill.build(8);
        one(mill, 3, 1, 9, true);
        // The text of 3 is another one, too.
        for (int module = 1; module <= 3; module++) isWhy(mill, module, 2, 1, NONE, NONE);
        mill.build(8);
        isWhy(mill, 3, 0, NONE, NONE, NONE);
        mill.leave(2, 0);
        // Of three rings now each was built last in another one, 1 and 3 with the text of now.
        isWhy(mill, 1, 2, 1, NONE, NONE);
        isWhy(mill, 2, 2, 2, NONE, NONE);
        isWhy(mill, 3, 2, 3, NONE, NONE);
        // Built one by one, and then one ring again, of which just some were built last in another one.
        mill.build(1);
        isWhy(mill, 2, 0, NONE, NONE, NONE);
        one(mill, 2, 3, 9, true);
        for (int module = 1; module <= 3; module++) isWhy(mill, module, 2, 1, NONE, NONE);
        renews(mill, 0, 1);
        isWhy(mill, 1, 0, NONE, NONE, NONE);
        // Just 0 was built in another one: alone, in between.
        CutoffMill two = withModules(2);
        one(two, 0, 1, 9, true);
        one(two, 1, 0, 9, true);
        two.build(8);
        two.leave(1, 0);
        isWhy(two, 0, 2, 0, NONE, NONE);
        one(two, 1, 0, 9, true);
        two.leave(0, 0);
        two.build(1);
        one(two, 0, 1, 9, true);
        isWhy(two, 0, 2, 0, NONE, NONE);
        isWhy(two, 1, 2, 0, NONE, NONE);
    }

    /** 3 a TEXT is not the same: the MODULE with the smallest number of which that is so. */
    private static void aTextGoesThird() {
        part = "a text goes third";
        CutoffMill mill = withModules(5);
        for (int module = 1; module <= 3; module++) one(mill, module, module == 3 ? 1 : module + 1, 9, true);
        all(mill, 2, 0, false);
        constant(mill, 2, 2, 0, 4, NONE);
        mill.build(8);
        // An answer is another one.
        constant(mill, 0, 4, 1);
        isWhy(mill, 0, 3, 0, NONE, NONE);
        isWhy(mill, 3, 4, 1, 0, 4);
        mill.declare(3, 5, CONSTANT, false, 0, NONE, NONE);
        for (int module = 1; module <= 3; module++) isWhy(mill, module, 3, 3, NONE, NONE);
        one(mill, 2, 7, 1, true);
        for (int module = 1; module <= 3; module++) isWhy(mill, module, 3, 2, NONE, NONE);
        mill.declare(1, 6, CONSTANT, false, 0, NONE, NONE);
        for (int module = 1; module <= 3; module++) isWhy(mill, module, 3, 1, NONE, NONE);
        mill.drop(1, 6);
        mill.leave(2, 2);
        mill.drop(3, 5);
        isWhy(mill, 3, 4, 1, 0, 4);
        isWhy(mill, 4, 0, NONE, NONE, NONE);
    }

    /** 4 an ANSWER would be another one. */
    private static void anAnswerGoesLast() {
        part = "an answer goes last";
        CutoffMill mill = withModules(3);
        constant(mill, 0, 4, 1);
        all(mill, 2, 1, false);
        constant(mill, 2, 5, 0, 4, NONE);
        mill.build(8);
        isBuilt(mill, 2, 5, 1);
        // What module 2 looks for is name 4 in module 1; it comes to module 0 now.
        all(mill, 1, 0, true);
        isWhy(mill, 1, 3, 1, NONE, NONE);
        isWhy(mill, 2, 4, 2, 1, 4);
        mill.build(1);
        isWhy(mill, 1, 0, NONE, NONE, NONE);
        isWhy(mill, 2, 4, 2, 1, 4);
        constant(mill, 0, 4, 2);
        isWhy(mill, 2, 4, 2, 1, 4);
        mill.build(8);
        isWhy(mill, 2, 0, NONE, NONE, NONE);
        constant(mill, 0, 4, 1);
        // Told, but not built, the number is still the one of before.
        isWhy(mill, 2, 0, NONE, NONE, NONE);
        mill.build(1);
        isWhy(mill, 2, 4, 2, 1, 4);
    }

    /** The MODULE and the NAME that was LOOKED FOR, the smallest ones (MODULES ahead of NAMES). */
    private static void theSmallestAnswerIsTold() {
        part = "the smallest answer is told";
        CutoffMill mill = withModules(4);
        mill.bring(3, 0, 15, 1, false);
        mill.bring(3, 0, 14, 2, false);
        mill.bring(3, 1, 0, 3, false);
        mill.bring(3, 2, 0, 4, false);
        constant(mill, 3, 9, 0, 4, 3);
        constant(mill, 3, 10, 0, 2, 1);
        mill.build(8);
        constant(mill, 2, 0, 0);
        isWhy(mill, 3, 4, 3, 2, 0);
        constant(mill, 1, 0, 0);
        isWhy(mill, 3, 4, 3, 1, 0);
        constant(mill, 0, 15, 0);
        isWhy(mill, 3, 4, 3, 0, 15);
        constant(mill, 0, 13, 0);
        isWhy(mill, 3, 4, 3, 0, 15);
        constant(mill, 0, 14, 0);
        isWhy(mill, 3, 4, 3, 0, 14);
        mill.drop(0, 14);
        mill.drop(0, 15);
        isWhy(mill, 3, 4, 3, 1, 0);
    }

    private static void whatOfWhy() {
        part = "what of why: 0 to 3";
        CutoffMill mill = withModules(3);
        for (int what : new int[] {-1, 4, Integer.MIN_VALUE, Integer.MAX_VALUE}) refused(mill, ARGUMENT, () -> mill.why(0, what));
        one(mill, 1, 2, 7, true);
        one(mill, 2, 1, 8, true);
        constant(mill, 2, 0, 0, 6, NONE);
        mill.bring(2, 0, 5, 6, true);
        mill.build(8);
        constant(mill, 0, 5, 0);
        for (int module = 1; module <= 2; module++) isWhy(mill, module, 4, 1, 0, 5);
        for (int what : new int[] {-1, 4, Integer.MIN_VALUE, Integer.MAX_VALUE}) refused(mill, ARGUMENT, () -> mill.why(2, what));
    }

    // ---- answers

    /** Module 0 is built as it is told here, and module 1, that looks for name 4 there, is not. */
    private static void answers(CutoffMill mill, boolean isOther) {
        mill.build(1);
        isOfModule(mill, 8, 0, isOther ? 1 : 0);
        isWhy(mill, 1, isOther ? 4 : 0, isOther ? 1 : NONE, isOther ? 0 : NONE, isOther ? 4 : NONE);
        mill.build(8);
    }

    /** Nothing; CLASH; the DECLARATION, by its MODULE and NAME, and, by its STATE, .. */
    private static void whatIsPartOfAnAnswer() {
        part = "what is part of an answer";
        CutoffMill mill = withModules(2);
        all(mill, 1, 0, false);
        procedure(mill, 1, 9, 0, 4, NONE);
        mill.build(8);
        constant(mill, 0, 4, 0);
        answers(mill, true);
        constant(mill, 0, 4, 1);
        answers(mill, true);
        // A constant, and a small one of the same number.
        procedure(mill, 0, 4, 1, NONE, NONE);
        answers(mill, true);
        procedure(mill, 0, 4, 2, NONE, NONE);
        answers(mill, true);
        procedure(mill, 0, 4, 2, 4, NONE);
        answers(mill, true);
        procedure(mill, 0, 4, 2, 4, 9);
        answers(mill, true);
        // Both with a fault, and so without a number: it is another kind.
        constant(mill, 0, 4, 2, 9, NONE);
        answers(mill, true);
        constant(mill, 0, 4, 0);
        answers(mill, true);
        mill.declare(0, 4, CONSTANT, false, 0, NONE, NONE);
        answers(mill, true);
        // Another name of the same module, and another module, of the same number.
        mill.drop(0, 4);
        mill.module();
        mill.bring(0, 2, 5, 4, true);
        constant(mill, 2, 5, 0);
        constant(mill, 2, 6, 0);
        mill.build(8);
        mill.leave(0, 0);
        mill.bring(0, 2, 6, 4, true);
        answers(mill, true);
        constant(mill, 0, 4, 0);
        answers(mill, true);
        mill.drop(0, 4);
        mill.leave(0, 0);
        answers(mill, true);
        // From nothing to a clash.
        constant(mill, 2, 4, 0);
        mill.module();
        constant(mill, 3, 4, 0);
        all(mill, 0, 2, true);
        mill.build(8);
        isBuilt(mill, 1, 9, 0);
        all(mill, 0, 3, true);
        answers(mill, true);
        isBuilt(mill, 1, 9, 2);
        // From a clash to one of both, to the clash again, and to nothing.
        mill.leave(0, 0);
        answers(mill, true);
        all(mill, 0, 2, true);
        answers(mill, true);
        mill.leave(0, 0);
        mill.leave(0, 0);
        answers(mill, true);
        isBuilt(mill, 1, 9, 1);
    }

    /** By its MODULE and NAME: of all that has the same state it is still another one. */
    private static void whichOneItIsIsPartOfAnAnswer() {
        part = "which one it is is part of an answer";
        for (int state = 0; state < 5; state++) {
            for (int other = 0; other <= 5; other++) {
                if (other == 4) continue;
                CutoffMill mill = withModules(4);
                for (int module = 2; module <= 3; module++) {
                    for (int name = 4; name <= 5; name++) isAsTheOthers(mill, module, name, state);
                    isAsTheOthers(mill, module, other, state);
                }
                mill.bring(0, 2, 4, 4, true);
                all(mill, 1, 0, false);
                procedure(mill, 1, 9, 0, 4, NONE);
                mill.build(8);
                mill.leave(0, 0);
                mill.bring(0, 2, other, 4, true);
                answers(mill, true);
                mill.leave(0, 0);
                mill.bring(0, 3, other, 4, true);
                answers(mill, true);
            }
        }
    }

    /** A constant, a small one, one that is not small; a constant and a procedure with a fault. */
    private static void isAsTheOthers(CutoffMill mill, int module, int name, int state) {
        int p = state < 2 ? NONE : state == 2 ? name : 9;
        mill.declare(module, name, state == 0 || state == 3 ? CONSTANT : PROCEDURE, true, 7, p, NONE);
    }

    private static void whatIsNoPartOfAnAnswer() {
        part = "what is no part of an answer";
        CutoffMill mill = withModules(2);
        all(mill, 1, 0, false);
        procedure(mill, 1, 9, 0, 4, NONE);
        constant(mill, 0, 4, 5);
        mill.build(8);
        // How it comes to its number.
        constant(mill, 0, 5, 3);
        constant(mill, 0, 4, 2, 5, NONE);
        answers(mill, false);
        // Nothing that is not looked for.
        constant(mill, 0, 6, 3);
        answers(mill, false);
        // A number of one that is not small, and what it calls.
        procedure(mill, 0, 4, 1, 4, NONE);
        answers(mill, true);
        procedure(mill, 0, 4, 2, NONE, 4);
        answers(mill, false);
        procedure(mill, 0, 4, 2, 4, 4);
        answers(mill, false);
        // Which fault, and the number that is told with it.
        procedure(mill, 0, 4, 2, 4, 9);
        answers(mill, true);
        constant(mill, 0, 6, 3, 9, NONE);
        procedure(mill, 0, 4, 3, 6, NONE);
        answers(mill, false);
        // From which module it is brought.
        mill.drop(0, 4);
        mill.module();
        constant(mill, 2, 4, 0);
        all(mill, 0, 2, true);
        mill.build(8);
        one(mill, 0, 2, 4, true);
        answers(mill, false);
    }

    /** In what is not there: nothing. */
    private static void notedWhereNothingIsThere() {
        part = "noted where nothing is there";
        CutoffMill mill = withModules(1);
        one(mill, 0, 7, 4, false);
        all(mill, 0, 3, false);
        procedure(mill, 0, 0, 0, 4, 5);
        mill.build(8);
        isBuilt(mill, 0, 0, 1);
        for (int module = 1; module < 8; module++) mill.module();
        // There, but without a text, is still nothing; and leaning on it is no text.
        isOfModule(mill, 4, 128 + 8);
        isWhy(mill, 0, 0, NONE, NONE, NONE);
        same("build(8)", mill.build(8), 7);
        constant(mill, 7, 4, 0);
        isWhy(mill, 0, 4, 0, 7, 4);
        constant(mill, 3, 5, 0);
        isWhy(mill, 0, 4, 0, 3, 5);
        mill.build(8);
        isBuilt(mill, 0, 0, 0, 1, 0);
    }

    /** Of a DECLARATION of the RING itself just which one it is. */
    private static void notedOfTheRingItself() {
        part = "noted of the ring itself";
        CutoffMill mill = withModules(3);
        all(mill, 0, 1, true);
        all(mill, 1, 0, true);
        procedure(mill, 0, 2, 1, 3, NONE);
        constant(mill, 1, 3, 5);
        mill.build(1);
        isWhy(mill, 0, 0, NONE, NONE, NONE);
        isBuilt(mill, 0, 2, 0, 1, 6);
        constant(mill, 1, 3, 6);
        isWhy(mill, 0, 3, 1, NONE, NONE);
        mill.build(1);
        isWhy(mill, 0, 0, NONE, NONE, NONE);
        isBuilt(mill, 0, 2, 0, 1, 7);
        // It is fetched by its texts, whatever its own declarations were built as since.
        constant(mill, 1, 3, 5);
        same("rings fetched", mill.many(8), 0);
        mill.build(1);
        same("rings fetched", mill.many(8), 1);
        isBuilt(mill, 0, 2, 0, 1, 6);
        mill.drop(1, 3);
        mill.build(1);
        isBuilt(mill, 0, 2, 1);
    }

    private static void takenBackIsNotStale() {
        part = "what is taken back is not stale";
        CutoffMill mill = withModules(3);
        constant(mill, 0, 4, 1);
        all(mill, 1, 0, true);
        constant(mill, 1, 5, 1, 4, NONE);
        mill.build(8);
        mill.drop(0, 4);
        isWhy(mill, 1, 4, 1, 0, 4);
        mill.declare(0, 4, PROCEDURE, true, 9, 9, 9);
        // Its name is what it was, and its state the one with which it was built last.
        isWhy(mill, 1, 0, NONE, NONE, NONE);
        isWhy(mill, 0, 3, 0, NONE, NONE);
        constant(mill, 0, 4, 1);
        isWhy(mill, 0, 0, NONE, NONE, NONE);
        one(mill, 0, 1, 5, true);
        isWhy(mill, 1, 2, 0, NONE, NONE);
        mill.leave(0, 0);
        isWhy(mill, 0, 0, NONE, NONE, NONE);
        isWhy(mill, 1, 0, NONE, NONE, NONE);
        same("isAsNew()", mill.isAsNew(), true);
        same("build(8)", mill.build(8), 0);
    }
}
