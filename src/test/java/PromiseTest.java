/** At least one test for each promise of the document: ordinary inputs, edges, wrong inputs. */
public final class PromiseTest extends Checks {
    public static void main(String[] args) {
        promise1();
        promise2();
        promise3();
        promise4();
        promise5();
        promise6();
        promise7();
        promise7Order();
        promise8();
        promise8Imports();
        promise9();
        promise9ComingBack();
        promise9Answer();
        promise10();
        promise10Store();
        promise10Cutoff();
        promise10CutoffOfStates();
        promise11();
        promise12Faults();
        promise12Rings();
        promise12LongRing();
        promise12BehindFetched();
        promise12Numbers();
        promise12LastBuilt();
        promise13();
        promise14();
        promise14Depth();
        promise14Calls();
        promise15();
        promise16();
        promise17();
        promise18();
        promise19();
        promise20();
        promise21();
        end();
    }

    // ---- promises

    private static void promise1() {
        part = "promise 1";
        CutoffMill mill = new CutoffMill();
        for (int what = 0; what <= 9; what++) same("many(" + what + ")", mill.many(what), 0);
        same("isAsNew()", mill.isAsNew(), true);
        refused(mill, INDEX, () -> mill.ofModule(0, 0));
    }

    private static void promise2() {
        part = "promise 2";
        CutoffMill mill = new CutoffMill();
        for (int k = 0; k < 8; k++) {
            same("module()", mill.module(), k);
            same("declarations", mill.ofModule(k, 0), 0);
            same("imports", mill.ofModule(k, 1), 0);
        }
        refused(mill, STATE, () -> mill.module());
        same("many(0)", mill.many(0), 8);
    }

    private static void promise3() {
        part = "promise 3";
        CutoffMill mill = withModules(2);
        same("declare", mill.declare(1, 15, PROCEDURE, true, 99, 15, NONE), 1);
        same("declare", mill.declare(1, 0, CONSTANT, false, -99, NONE, 0), 2);
        same("declare in place", mill.declare(1, 15, CONSTANT, true, 0, NONE, NONE), 2);
        for (int name = 1; name <= 4; name++) same("declare", mill.declare(1, name, CONSTANT, true, name, NONE, NONE), name + 2);
        same("declare in place of one of 6", mill.declare(1, 4, CONSTANT, true, 7, NONE, NONE), 6);
        same("of the other module", mill.ofModule(0, 0), 0);
        refused(mill, STATE, () -> mill.declare(1, 5, CONSTANT, true, 0, NONE, NONE));
        refused(mill, INDEX, () -> mill.declare(2, 16, 2, true, 100, 16, 16));
        refused(mill, INDEX, () -> mill.declare(-1, 0, 0, true, 0, NONE, NONE));
        refused(mill, ARGUMENT, () -> mill.declare(1, 16, CONSTANT, true, 0, NONE, NONE));
        refused(mill, ARGUMENT, () -> mill.declare(1, -1, CONSTANT, true, 0, NONE, NONE));
        refused(mill, ARGUMENT, () -> mill.declare(1, 5, 2, true, 0, NONE, NONE));
        refused(mill, ARGUMENT, () -> mill.declare(0, 5, -1, true, 0, NONE, NONE));
        refused(mill, ARGUMENT, () -> mill.declare(1, 5, CONSTANT, true, 100, NONE, NONE));
        refused(mill, ARGUMENT, () -> mill.declare(0, 5, CONSTANT, true, -100, NONE, NONE));
        refused(mill, ARGUMENT, () -> mill.declare(0, 5, CONSTANT, true, 0, 16, NONE));
        refused(mill, ARGUMENT, () -> mill.declare(0, 5, CONSTANT, true, 0, -2, NONE));
        refused(mill, ARGUMENT, () -> mill.declare(0, 5, CONSTANT, true, 0, NONE, 16));
        refused(mill, ARGUMENT, () -> mill.declare(0, 5, CONSTANT, true, 0, NONE, -2));
        mill.build(8);
        isBuilt(mill, 1, 4, 0, 0, 7, 0, NONE, NONE);
        isBuilt(mill, 1, 0, 4, 0, 0, 0, NONE, NONE);
        same("what the same text is", mill.declare(1, 4, CONSTANT, true, 7, NONE, NONE), 6);
        same("why", mill.why(1, 0), 0);
        mill.declare(1, 4, CONSTANT, false, 7, NONE, NONE);
        same("why, if not public any more", mill.why(1, 0), 3);
    }

    private static void promise4() {
        part = "promise 4";
        CutoffMill mill = withModules(1);
        constant(mill, 0, 3, 1);
        same("drop of none", mill.drop(0, 4), false);
        same("drop", mill.drop(0, 3), true);
        same("drop again", mill.drop(0, 3), false);
        same("declarations", mill.ofModule(0, 0), 0);
        isWithin(mill, 0, 3, NONE, NONE);
        same("drop at the edges", mill.drop(0, 0) || mill.drop(0, 15), false);
        refused(mill, INDEX, () -> mill.drop(1, 16));
        refused(mill, INDEX, () -> mill.drop(-1, 0));
        refused(mill, ARGUMENT, () -> mill.drop(0, 16));
        refused(mill, ARGUMENT, () -> mill.drop(0, -1));
    }

    private static void promise5() {
        part = "promise 5";
        CutoffMill mill = withModules(2);
        refused(mill, INDEX, () -> mill.bring(2, 8, 16, 16, true));
        refused(mill, INDEX, () -> mill.bring(-1, 0, 0, 0, true));
        refused(mill, ARGUMENT, () -> mill.bring(0, 8, 0, 0, true));
        refused(mill, ARGUMENT, () -> mill.bring(0, -1, 0, 0, true));
        refused(mill, ARGUMENT, () -> mill.bring(0, 0, 0, 0, true));
        refused(mill, ARGUMENT, () -> mill.bring(0, 1, 16, 0, true));
        refused(mill, ARGUMENT, () -> mill.bring(0, 1, -2, 0, true));
        refused(mill, ARGUMENT, () -> mill.bring(0, 1, 0, 16, true));
        refused(mill, ARGUMENT, () -> mill.bring(0, 1, 0, -1, true));
        refused(mill, ARGUMENT, () -> mill.bring(0, 1, NONE, 1, true));
        same("bring", mill.bring(0, 7, 15, 15, true), 0);
        same("bring", mill.bring(0, 1, 0, 0, false), 1);
        same("bring of all", mill.bring(0, 1, NONE, 0, false), 2);
        same("bring the same again", mill.bring(0, 1, NONE, 0, false), 3);
        same("bring", mill.bring(0, 1, 0, 1, true), 4);
        refused(mill, STATE, () -> mill.bring(0, 1, 0, 1, true));
        refused(mill, ARGUMENT, () -> mill.bring(0, 0, 0, 1, true));
        same("imports", mill.ofModule(0, 1), 5);
        same("of the other module", mill.bring(1, 0, NONE, 0, true), 0);
    }

    private static void promise6() {
        part = "promise 6";
        CutoffMill mill = withModules(3);
        constant(mill, 1, 5, 1);
        constant(mill, 2, 5, 2);
        mill.bring(0, 1, 5, 5, false);
        mill.bring(0, 2, 5, 5, false);
        mill.bring(0, 2, 5, 6, false);
        refused(mill, INDEX, () -> mill.leave(0, 3));
        refused(mill, INDEX, () -> mill.leave(0, -1));
        refused(mill, INDEX, () -> mill.leave(3, 0));
        refused(mill, INDEX, () -> mill.leave(-1, 0));
        refused(mill, INDEX, () -> mill.leave(1, 0));
        isWithin(mill, 0, 5, 1, 5);
        same("leave", mill.leave(0, 0), 2);
        isWithin(mill, 0, 5, 2, 5);
        isWithin(mill, 0, 6, 2, 5);
        same("leave", mill.leave(0, 0), 1);
        isWithin(mill, 0, 5, NONE, NONE);
        isWithin(mill, 0, 6, 2, 5);
        same("leave", mill.leave(0, 0), 0);
        refused(mill, INDEX, () -> mill.leave(0, 0));
        mill.bring(0, 1, 5, 1, false);
        mill.bring(0, 2, 5, 2, false);
        mill.build(8);
        mill.leave(0, 0);
        mill.bring(0, 1, 5, 1, false);
        same("imports in another order are another text", mill.why(0, 0), 3);
        mill.leave(0, 0);
        mill.bring(0, 2, 5, 2, false);
        same("in the first order again", mill.why(0, 0), 0);
    }

    private static void promise7() {
        part = "promise 7";
        CutoffMill mill = withModules(3);
        procedure(mill, 0, 1, 4, 2, 3);
        constant(mill, 0, 2, 1);
        procedure(mill, 0, 4, 4, 3, 5);
        procedure(mill, 0, 5, 4, 6, NONE);
        mill.bring(0, 6, 9, 6, false);
        mill.bring(0, 6, 10, 6, false);
        mill.bring(0, 1, NONE, 0, false);
        mill.bring(0, 1, NONE, 0, true);
        mill.bring(0, 2, NONE, 0, false);
        isOfModule(mill, 0, 4, 0, 0);
        isOfModule(mill, 1, 5, 0, 0);
        isOfModule(mill, 4, 6, 0, 0);
        // 3 in the modules 1 and 2, and 9 in the module 6; 2 and 5 are its own.
        isOfModule(mill, 5, 3, 0, 0);
        isOfModule(mill, 8, 1, 1, 1);
        mill.bring(1, 0, 1, 1, false);
        procedure(mill, 1, 2, 0, 1, 1);
        // Each once, those of the ring, too.
        isOfModule(mill, 5, 3, 1, 0);
        isOfModule(mill, 2, 0, 0, 2);
        isOfModule(mill, 4, 6, 1, 0);
        mill.build(8);
        isOfModule(mill, 8, 0, 0, 0);
        isOfModule(mill, 6, 1, 1, 1);
        constant(mill, 1, 3, 1);
        isOfModule(mill, 8, 1, 1, 0);
        mill.build(8);
        mill.drop(1, 3);
        mill.build(8);
        isOfModule(mill, 6, 2, 2, 1);
        isOfModule(mill, 7, 1, 1, 0);
        refused(mill, INDEX, () -> mill.ofModule(3, 9));
        refused(mill, INDEX, () -> mill.ofModule(-1, 0));
        refused(mill, ARGUMENT, () -> mill.ofModule(0, 9));
        refused(mill, ARGUMENT, () -> mill.ofModule(0, -1));
    }

    private static void promise7Order() {
        part = "promise 7, the order";
        CutoffMill mill = withModules(6);
        isOfModule(mill, 3, 0, 1, 2, 3, 4, 5);
        mill.bring(0, 4, 1, 1, false);
        mill.bring(1, 5, 1, 1, false);
        mill.bring(5, 3, 1, 1, false);
        mill.bring(3, 1, 1, 1, false);
        // The ring of 1, 3 and 5 stands ahead of 2, as 1 does; 0 comes behind 4.
        isOfModule(mill, 2, 0, 1, 2, 1, 4, 1);
        isOfModule(mill, 3, 3, 0, 1, 0, 2, 0);
        same("rings", mill.many(3), 4);
        mill.bring(3, 2, 1, 1, false);
        isOfModule(mill, 3, 3, 1, 0, 1, 2, 1);
        // 4 leans on what is not there yet.
        mill.bring(4, 6, 1, 1, false);
        isOfModule(mill, 4, 16, 32, 0, 6, 0, 8);
        mill.module();
        isOfModule(mill, 4, 16, 32, 0, 6, 64, 8, 0);
        isOfModule(mill, 3, 4, 1, 0, 1, 3, 1, 2);
    }

    private static void promise8() {
        part = "promise 8";
        CutoffMill mill = withModules(4);
        isWithin(mill, 0, 1, NONE, NONE);
        mill.declare(0, 1, CONSTANT, false, 0, NONE, NONE);
        isWithin(mill, 0, 1, 0, 1);
        constant(mill, 1, 2, 0);
        constant(mill, 1, 3, 0);
        mill.declare(1, 4, CONSTANT, false, 0, NONE, NONE);
        mill.bring(0, 1, 2, 1, false);
        isWithin(mill, 0, 1, 0, 1);
        mill.bring(0, 1, 2, 9, false);
        isWithin(mill, 0, 9, 1, 2);
        isWithin(mill, 0, 2, NONE, NONE);
        isWithin(mill, 0, 0, NONE, NONE);
        isWithin(mill, 0, 15, NONE, NONE);
        mill.bring(0, 1, NONE, 0, false);
        isWithin(mill, 0, 2, 1, 2);
        isWithin(mill, 0, 3, 1, 3);
        isWithin(mill, 0, 4, NONE, NONE);
        constant(mill, 2, 3, 0);
        mill.bring(0, 2, NONE, 0, true);
        isWithin(mill, 0, 3, -2, -2);
        isWithin(mill, 0, 2, 1, 2);
        mill.drop(2, 3);
        mill.bring(2, 1, 3, 3, true);
        isWithin(mill, 0, 3, 1, 3);
        refused(mill, INDEX, () -> mill.within(4, 16, 2));
        refused(mill, INDEX, () -> mill.within(-1, 0, 0));
        refused(mill, ARGUMENT, () -> mill.within(0, 16, 0));
        refused(mill, ARGUMENT, () -> mill.within(0, -1, 0));
        refused(mill, ARGUMENT, () -> mill.within(0, 0, 2));
        refused(mill, ARGUMENT, () -> mill.within(0, 0, -1));
    }

    private static void promise8Imports() {
        part = "promise 8, imports";
        CutoffMill mill = withModules(4);
        constant(mill, 1, 2, 0);
        constant(mill, 2, 2, 0);
        mill.bring(0, 1, NONE, 0, false);
        mill.bring(0, 2, 7, 2, false);
        mill.bring(0, 1, 2, 2, true);
        // The first import under the name says what it is, also if that is nothing.
        isWithin(mill, 0, 2, NONE, NONE);
        mill.leave(0, 1);
        isWithin(mill, 0, 2, 1, 2);
        mill.bring(0, 6, NONE, 0, false);
        isWithin(mill, 0, 2, 1, 2);
        // To come from the other module to the own one is no coming back.
        constant(mill, 0, 5, 0);
        mill.bring(1, 0, 5, 8, true);
        mill.bring(0, 1, 8, 9, false);
        isWithin(mill, 0, 9, 0, 5);
        mill.bring(3, 1, 11, 11, true);
        mill.bring(1, 3, 11, 11, true);
        isWithin(mill, 3, 11, NONE, NONE);
        mill.bring(2, 3, NONE, 0, true);
        mill.bring(3, 2, NONE, 0, true);
        isWithin(mill, 3, 2, 2, 2);
    }

    private static void promise9() {
        part = "promise 9";
        CutoffMill mill = withModules(5);
        constant(mill, 0, 1, 0);
        mill.declare(0, 2, CONSTANT, false, 0, NONE, NONE);
        isOutside(mill, 0, 1, 0, 1);
        isOutside(mill, 0, 2, NONE, NONE);
        mill.bring(1, 0, 1, 4, false);
        isOutside(mill, 1, 4, NONE, NONE);
        mill.bring(1, 0, 1, 4, true);
        isOutside(mill, 1, 4, 0, 1);
        // What is not public hides what is brought again.
        mill.declare(1, 4, CONSTANT, false, 0, NONE, NONE);
        isOutside(mill, 1, 4, NONE, NONE);
        isWithin(mill, 1, 4, 1, 4);
        mill.drop(1, 4);
        constant(mill, 2, 1, 0);
        mill.bring(3, 0, NONE, 0, true);
        isOutside(mill, 3, 1, 0, 1);
        mill.bring(3, 2, NONE, 0, false);
        isOutside(mill, 3, 1, 0, 1);
        isWithin(mill, 3, 1, -2, -2);
        mill.bring(3, 2, NONE, 0, true);
        isOutside(mill, 3, 1, -2, -2);
        // A clash in one of them is a clash, also if another one has just one.
        mill.bring(4, 0, NONE, 0, true);
        mill.bring(4, 3, NONE, 0, true);
        isOutside(mill, 4, 1, -2, -2);
        // An import of one name goes ahead of those of all, also if it comes to nothing.
        mill.bring(4, 0, 2, 1, true);
        isOutside(mill, 4, 1, NONE, NONE);
        isAnswered(mill, 4, 1, 0, 0, 0, 0);
        isAnswered(mill, 3, 1, 0, 0, 0, 0);
        refused(mill, INDEX, () -> mill.outside(5, 16, 6));
        refused(mill, INDEX, () -> mill.outside(-1, 0, 0));
        refused(mill, ARGUMENT, () -> mill.outside(0, 16, 0));
        refused(mill, ARGUMENT, () -> mill.outside(0, -1, 0));
        refused(mill, ARGUMENT, () -> mill.outside(0, 0, 6));
        refused(mill, ARGUMENT, () -> mill.outside(0, 0, -1));
    }

    private static void promise9ComingBack() {
        part = "promise 9, coming back";
        CutoffMill mill = withModules(3);
        mill.bring(0, 1, 2, 1, true);
        mill.bring(1, 0, 1, 2, true);
        isOutside(mill, 0, 1, NONE, NONE);
        isOutside(mill, 1, 2, NONE, NONE);
        mill.bring(0, 1, NONE, 0, true);
        mill.bring(1, 2, NONE, 0, true);
        mill.bring(2, 0, NONE, 0, true);
        isOutside(mill, 0, 5, NONE, NONE);
        constant(mill, 2, 5, 0);
        isOutside(mill, 0, 5, 2, 5);
        isOutside(mill, 1, 5, 2, 5);
        // To the same module, but for another name, is no coming back.
        mill.bring(0, 2, 6, 7, true);
        mill.bring(2, 0, 5, 6, true);
        isOutside(mill, 0, 7, 2, 5);
    }

    private static void promise9Answer() {
        part = "promise 9, the answer";
        CutoffMill mill = withModules(2);
        procedure(mill, 0, 1, 5, NONE, NONE);
        mill.bring(1, 0, NONE, 0, true);
        // Before it is built it is like a constant with a fault.
        isAnswered(mill, 1, 1, 1, 1, 0, 0);
        procedure(mill, 0, 2, 5, 2, NONE);
        procedure(mill, 0, 3, 5, 9, NONE);
        constant(mill, 0, 4, -7);
        mill.declare(0, 5, CONSTANT, true, 3, 9, NONE);
        mill.build(8);
        isAnswered(mill, 1, 1, 0, 0, 1, 5);
        isAnswered(mill, 1, 2, 0, 0, 0, 0);
        isAnswered(mill, 1, 3, 0, 1, 0, 0);
        isAnswered(mill, 1, 4, 1, 0, 0, -7);
        isAnswered(mill, 0, 4, 1, 0, 0, -7);
        isAnswered(mill, 1, 5, 1, 1, 0, 0);
        isAnswered(mill, 1, 9, 0, 0, 0, 0);
        // The names are those of now, the states those with which it was built last.
        constant(mill, 0, 1, 6);
        isAnswered(mill, 1, 1, 0, 0, 1, 5);
        mill.build(1);
        isAnswered(mill, 1, 1, 1, 0, 0, 6);
    }

    private static void promise10() {
        part = "promise 10";
        CutoffMill mill = withModules(3);
        same("build(1)", mill.build(1), 1);
        isOfModule(mill, 8, 0, 1, 1);
        same("build(2)", mill.build(2), 2);
        same("build(8) of none", mill.build(8), 0);
        same("builds", mill.many(9), 3);
        refused(mill, ARGUMENT, () -> mill.build(0));
        refused(mill, ARGUMENT, () -> mill.build(9));
        refused(mill, ARGUMENT, () -> mill.build(-1));
        // Rings behind others: what is come to is stale or not by what was built before it.
        mill.bring(0, 1, 1, 1, false);
        mill.declare(0, 3, CONSTANT, true, 1, 1, NONE);
        constant(mill, 1, 1, 4);
        same("build(1), of module 1 ahead of 0", mill.build(1), 1);
        isOfModule(mill, 8, 1, 0, 0);
        same("build(1)", mill.build(1), 1);
        isBuilt(mill, 0, 3, 0, 0, 5, 0, NONE, NONE);
        // A ring is built as one.
        mill.bring(1, 0, 3, 5, false);
        same("build(1) of a ring of two", mill.build(1), 1);
        isOfModule(mill, 8, 0, 0, 0);
        isOfModule(mill, 6, 3, 3, 1);
    }

    private static void promise10Store() {
        part = "promise 10, the store";
        CutoffMill mill = withModules(1);
        for (int number = 0; number <= 10; number++) {
            constant(mill, 0, 0, number);
            renews(mill, 1, 0);
            same("results", mill.many(6), Math.min(10, number + 1));
        }
        constant(mill, 0, 0, 1);
        renews(mill, 0, 1);
        isBuilt(mill, 0, 0, 0, 0, 1);
        // 0 is out; to build it anew puts 2 out, the oldest one, as 1 was fetched.
        constant(mill, 0, 0, 0);
        renews(mill, 1, 0);
        same("results", mill.many(6), 10);
        constant(mill, 0, 0, 1);
        renews(mill, 0, 1);
        constant(mill, 0, 0, 3);
        renews(mill, 0, 1);
        constant(mill, 0, 0, 2);
        renews(mill, 1, 0);
        constant(mill, 0, 0, 4);
        renews(mill, 1, 0);
        constant(mill, 0, 0, 10);
        renews(mill, 0, 1);
        // The text is the same in whatever order its declarations were told.
        constant(mill, 0, 1, 1);
        renews(mill, 1, 0);
        mill.drop(0, 0);
        renews(mill, 1, 0);
        constant(mill, 0, 0, 10);
        renews(mill, 0, 1);
    }

    private static void promise10Cutoff() {
        part = "promise 10, where it need not";
        CutoffMill mill = withModules(3);
        constant(mill, 0, 1, 1);
        constant(mill, 0, 2, 2);
        procedure(mill, 0, 3, 3, 3, NONE);
        mill.bring(1, 0, NONE, 0, true);
        mill.declare(1, 4, CONSTANT, true, 0, 1, NONE);
        procedure(mill, 1, 5, 0, 3, NONE);
        mill.bring(2, 1, NONE, 0, false);
        mill.declare(2, 6, CONSTANT, true, 0, 4, NONE);
        renews(mill, 3, 0);
        // Nobody looks for 2; the number of what is not small is no part of an answer.
        constant(mill, 0, 2, 9);
        renews(mill, 1, 0);
        procedure(mill, 0, 3, 8, 3, NONE);
        renews(mill, 1, 0);
        constant(mill, 0, 1, 5);
        renews(mill, 3, 0);
        isBuilt(mill, 2, 6, 0, 0, 5);
        // The numbers come to the same again, so the build ends where they do.
        constant(mill, 0, 1, 6);
        mill.declare(1, 4, CONSTANT, true, -1, 1, NONE);
        renews(mill, 2, 0);
        isBuilt(mill, 2, 6, 0, 0, 5);
        // The result that is fetched is the one with the answers of now.
        constant(mill, 0, 1, 1);
        mill.declare(1, 4, CONSTANT, true, 0, 1, NONE);
        constant(mill, 0, 2, 2);
        procedure(mill, 0, 3, 3, 3, NONE);
        renews(mill, 0, 3);
        isBuilt(mill, 2, 6, 0, 0, 1);
        // Another declaration with the same number is another answer.
        mill.declare(1, 1, CONSTANT, true, 1, NONE, NONE);
        renews(mill, 1, 0);
        mill.declare(2, 6, CONSTANT, true, 0, 1, NONE);
        renews(mill, 1, 0);
        mill.drop(1, 1);
        renews(mill, 1, 1);
        isWhy(mill, 2, 0, NONE, NONE, NONE);
        isBuilt(mill, 2, 6, 0, 0, 1);
    }

    private static void promise10CutoffOfStates() {
        part = "promise 10, which states are answers";
        CutoffMill mill = withModules(2);
        mill.bring(1, 0, NONE, 0, false);
        procedure(mill, 1, 2, 0, 1, NONE);
        mill.declare(0, 1, PROCEDURE, true, 3, 9, NONE);
        renews(mill, 2, 0);
        // Which fault it is, is no part of an answer; whether there is one, is.
        mill.declare(0, 1, PROCEDURE, true, 3, 5, NONE);
        mill.declare(0, 5, CONSTANT, true, 3, 5, NONE);
        renews(mill, 1, 0);
        isBuilt(mill, 0, 1, 5);
        procedure(mill, 0, 1, 0, 1, NONE);
        renews(mill, 2, 0);
        // Small, of the number 0, is something else than not small.
        procedure(mill, 0, 1, 0, NONE, NONE);
        renews(mill, 2, 0);
        // And a constant something else than a small one.
        constant(mill, 0, 1, 0);
        renews(mill, 2, 0);
        // Of a declaration of the ring itself just which one it is: here it is one ring.
        mill.bring(0, 1, 2, 8, false);
        renews(mill, 1, 0);
        constant(mill, 0, 1, 1);
        isWhy(mill, 1, 3, 0, NONE, NONE);
        renews(mill, 1, 0);
        isBuilt(mill, 1, 2, 0, 1, 1);
    }

    private static void promise11() {
        part = "promise 11";
        CutoffMill mill = withModules(4);
        isWhy(mill, 2, 1, 2, NONE, NONE);
        mill.build(8);
        isWhy(mill, 2, 0, NONE, NONE, NONE);
        constant(mill, 2, 1, 1);
        isWhy(mill, 2, 3, 2, NONE, NONE);
        mill.bring(2, 3, 1, 1, false);
        mill.build(8);
        mill.bring(3, 2, 1, 1, false);
        isWhy(mill, 2, 2, 2, NONE, NONE);
        isWhy(mill, 3, 2, 2, NONE, NONE);
        mill.build(8);
        mill.bring(3, 1, 7, 1, false);
        isWhy(mill, 2, 3, 3, NONE, NONE);
        constant(mill, 2, 9, 9);
        isWhy(mill, 3, 3, 2, NONE, NONE);
        // The smallest of all that the ring looked for and that is another one now.
        mill.bring(2, 1, NONE, 0, false);
        mill.bring(3, 0, 6, 8, false);
        mill.declare(3, 5, CONSTANT, true, 0, 8, NONE);
        mill.declare(2, 5, CONSTANT, true, 0, 7, 4);
        mill.build(8);
        isWhy(mill, 3, 0, NONE, NONE, NONE);
        constant(mill, 1, 7, 0);
        isWhy(mill, 3, 4, 2, 1, 7);
        constant(mill, 1, 4, 0);
        isWhy(mill, 2, 4, 2, 1, 4);
        constant(mill, 0, 6, 0);
        isWhy(mill, 3, 4, 2, 0, 6);
        same("build of the two that are leant on", mill.build(2), 2);
        isWhy(mill, 3, 4, 2, 0, 6);
        mill.build(8);
        // Never built goes ahead of another ring.
        mill.bring(0, 4, 1, 1, false);
        mill.module();
        mill.bring(4, 0, 1, 1, false);
        isWhy(mill, 0, 1, 4, NONE, NONE);
        isWhy(mill, 4, 1, 4, NONE, NONE);
        refused(mill, INDEX, () -> mill.why(5, 4));
        refused(mill, INDEX, () -> mill.why(-1, 0));
        refused(mill, ARGUMENT, () -> mill.why(0, 4));
        refused(mill, ARGUMENT, () -> mill.why(0, -1));
    }

    private static void promise12Faults() {
        part = "promise 12, faults";
        CutoffMill mill = withModules(3);
        constant(mill, 0, 0, 1);
        constant(mill, 1, 0, 1);
        procedure(mill, 0, 1, 1, NONE, NONE);
        mill.bring(2, 0, NONE, 0, false);
        mill.bring(2, 1, NONE, 0, false);
        mill.declare(2, 10, CONSTANT, true, 1, 9, 0);
        mill.declare(2, 11, CONSTANT, true, 1, 0, 9);
        mill.declare(2, 12, CONSTANT, true, 1, 1, 9);
        mill.declare(2, 13, CONSTANT, true, 1, NONE, 9);
        mill.declare(2, 14, PROCEDURE, true, 1, 1, 13);
        mill.declare(2, 15, PROCEDURE, true, 1, 14, 1);
        mill.build(8);
        isBuilt(mill, 2, 10, 1, 0, 0, 0, NONE, NONE);
        isBuilt(mill, 2, 11, 2, 0, 0, 0, NONE, NONE);
        isBuilt(mill, 2, 12, 3, 0, 0, 0, NONE, NONE);
        isBuilt(mill, 2, 13, 1, 0, 0, 0, NONE, NONE);
        isBuilt(mill, 2, 14, 5, 0, 0, 0, NONE, NONE);
        isBuilt(mill, 2, 15, 5, 0, 0, 0, NONE, NONE);
        isBuilt(mill, 0, 0, 0, 0, 1, 0, NONE, NONE);
        // A fault of another ring, and a constant of it that is none any more.
        mill.declare(0, 1, PROCEDURE, true, 1, 9, NONE);
        mill.drop(2, 13);
        mill.declare(2, 14, PROCEDURE, true, 1, 1, NONE);
        mill.declare(2, 12, CONSTANT, true, 1, 1, NONE);
        mill.build(8);
        isBuilt(mill, 0, 1, 1, 0, 0);
        isBuilt(mill, 2, 14, 5);
        isBuilt(mill, 2, 12, 3);
        refused(mill, INDEX, () -> mill.built(3, 16, 6));
        refused(mill, INDEX, () -> mill.built(-1, 0, 0));
        refused(mill, ARGUMENT, () -> mill.built(0, 16, 0));
        refused(mill, ARGUMENT, () -> mill.built(0, -1, 0));
        refused(mill, ARGUMENT, () -> mill.built(0, 0, 6));
        refused(mill, ARGUMENT, () -> mill.built(0, 0, -1));
    }

    private static void promise12Rings() {
        part = "promise 12, what comes back to itself";
        CutoffMill mill = withModules(2);
        mill.bring(0, 1, NONE, 0, false);
        mill.bring(1, 0, NONE, 0, false);
        mill.declare(0, 1, CONSTANT, true, 1, 2, NONE);
        mill.declare(1, 2, CONSTANT, true, 1, NONE, 1);
        mill.declare(0, 3, CONSTANT, true, 1, 1, NONE);
        mill.declare(1, 4, PROCEDURE, true, 1, 3, NONE);
        mill.declare(0, 5, CONSTANT, true, 1, 5, NONE);
        mill.declare(1, 6, PROCEDURE, true, 1, 6, NONE);
        mill.build(8);
        isBuilt(mill, 0, 1, 4, 0, 0, 0, NONE, NONE);
        isBuilt(mill, 1, 2, 4, 0, 0, 0, NONE, NONE);
        isBuilt(mill, 0, 3, 5, 0, 0, 0, NONE, NONE);
        isBuilt(mill, 1, 4, 5, 0, 0, 0, NONE, NONE);
        isBuilt(mill, 0, 5, 4, 0, 0, 0, NONE, NONE);
        isBuilt(mill, 1, 6, 0, 0, 1, 1, 1, 6);
        // One with another fault on the way: then none of them comes back to itself.
        mill.declare(1, 2, CONSTANT, true, 1, 9, 1);
        mill.build(8);
        isBuilt(mill, 0, 1, 5);
        isBuilt(mill, 1, 2, 1);
    }

    private static void promise12LongRing() {
        part = "promise 12, what comes back over many";
        CutoffMill mill = withModules(2);
        mill.bring(0, 1, NONE, 0, false);
        mill.bring(1, 0, NONE, 0, false);
        for (int k = 0; k < 12; k++) mill.declare(k % 2, k, CONSTANT, true, 1, (k + 1) % 12, (k + 1) % 12);
        mill.build(8);
        for (int k = 0; k < 12; k++) isBuilt(mill, k % 2, k, 4, 0, 0, 0, NONE, NONE);
        for (int k = 0; k < 12; k++) procedure(mill, k % 2, k, 1, (k + 1) % 12, (k + 1) % 12);
        mill.build(8);
        for (int k = 0; k < 12; k++) isBuilt(mill, k % 2, k, 0, 0, 1, 2, (k + 1) % 2, (k + 1) % 12);
    }

    private static void promise12BehindFetched() {
        part = "promise 12, behind one that was fetched";
        CutoffMill mill = withModules(2);
        constant(mill, 1, 2, 3);
        mill.bring(0, 1, NONE, 0, false);
        mill.build(8);
        mill.bring(1, 0, NONE, 0, false);
        mill.declare(1, 2, CONSTANT, true, 3, 1, NONE);
        mill.declare(0, 1, CONSTANT, true, 1, 2, NONE);
        mill.build(8);
        isBuilt(mill, 0, 1, 4);
        mill.leave(1, 0);
        constant(mill, 1, 2, 3);
        renews(mill, 1, 1);
        isBuilt(mill, 0, 1, 0, 0, 4, 0, NONE, NONE);
    }

    private static void promise12Numbers() {
        part = "promise 12, numbers and calls";
        CutoffMill mill = withModules(7);
        constant(mill, 0, 0, 99);
        for (int k = 1; k <= 35; k++) {
            int module = k / 6;
            if (k % 6 == 0) mill.bring(module, module - 1, 5, 6, false);
            mill.declare(module, k % 6, CONSTANT, true, -k, k % 6 == 0 ? 6 : k % 6 - 1, k % 6 == 0 ? 6 : k % 6 - 1);
        }
        mill.build(8);
        int number = 99;
        for (int k = 0; k <= 35; k++) {
            if (k > 0) number = 2 * number - k;
            isBuilt(mill, k / 6, k % 6, 0, 0, number, 0, NONE, NONE);
            isAnswered(mill, k / 6, k % 6, 1, 0, 0, number);
        }
        mill.bring(6, 5, 5, 9, false);
        procedure(mill, 6, 0, 7, 9, NONE);
        procedure(mill, 6, 1, 8, 0, 9);
        procedure(mill, 6, 2, 5, 1, 2);
        procedure(mill, 6, 3, 6, 2, 2);
        procedure(mill, 6, 4, 6, 0, 3);
        procedure(mill, 6, 5, 6, 4, 3);
        mill.build(8);
        isBuilt(mill, 6, 0, 0, 1, number + 7, 0, NONE, NONE);
        isBuilt(mill, 6, 1, 0, 1, number + number + 15, 0, NONE, NONE);
        isBuilt(mill, 6, 2, 0, 0, number + number + 20, 1, 6, 2);
        isBuilt(mill, 6, 3, 0, 0, 6, 2, 6, 2);
        isBuilt(mill, 6, 4, 0, 0, number + 13, 1, 6, 3);
        isBuilt(mill, 6, 5, 0, 0, 6, 2, 6, 4);
    }

    private static void promise12LastBuilt() {
        part = "promise 12, as it was built last";
        CutoffMill mill = withModules(1);
        constant(mill, 0, 3, 4);
        isBuilt(mill, 0, 3, NONE, NONE, NONE, NONE, NONE, NONE);
        mill.build(8);
        isBuilt(mill, 0, 3, 0, 0, 4, 0, NONE, NONE);
        isBuilt(mill, 0, 4, NONE, NONE, NONE, NONE, NONE, NONE);
        mill.drop(0, 3);
        constant(mill, 0, 4, 4);
        isBuilt(mill, 0, 3, 0, 0, 4, 0, NONE, NONE);
        isBuilt(mill, 0, 4, NONE, NONE, NONE, NONE, NONE, NONE);
        mill.build(8);
        isBuilt(mill, 0, 3, NONE, NONE, NONE, NONE, NONE, NONE);
        isBuilt(mill, 0, 4, 0, 0, 4, 0, NONE, NONE);
    }

    private static void promise13() {
        part = "promise 13";
        CutoffMill mill = withModules(2);
        mill.declare(1, 5, CONSTANT, true, 0, 9, NONE);
        mill.declare(1, 0, PROCEDURE, true, 0, 5, NONE);
        mill.declare(0, 15, CONSTANT, true, 0, 15, NONE);
        constant(mill, 0, 3, 0);
        refused(mill, INDEX, () -> mill.fault(0, 0));
        mill.build(8);
        int[] due = {4, 0, 15, 5, 1, 0, 1, 1, 5};
        for (int k = 0; k < 9; k++) same("fault(" + k / 3 + ", " + k % 3 + ")", mill.fault(k / 3, k % 3), due[k]);
        refused(mill, INDEX, () -> mill.fault(3, 3));
        refused(mill, INDEX, () -> mill.fault(-1, 0));
        refused(mill, ARGUMENT, () -> mill.fault(0, 3));
        refused(mill, ARGUMENT, () -> mill.fault(2, -1));
        // They are those of what was built last.
        mill.drop(0, 15);
        same("faults", mill.many(5), 3);
        mill.build(1);
        same("faults", mill.many(5), 2);
        same("fault(0, 1)", mill.fault(0, 1), 1);
    }

    private static void promise14() {
        part = "promise 14";
        CutoffMill mill = withModules(2);
        constant(mill, 0, 1, 4);
        procedure(mill, 0, 2, 3, 1, 1);
        procedure(mill, 0, 3, 3, 3, NONE);
        mill.declare(0, 4, CONSTANT, false, 3, 9, NONE);
        same("run before it is built", mill.run(0, 1), FAILED);
        mill.build(8);
        same("run of a constant", mill.run(0, 1), 4);
        same("run of a small one", mill.run(0, 2), 11);
        same("run of one without an end", mill.run(0, 3), FAILED);
        same("run of one with a fault", mill.run(0, 4), FAILED);
        same("run of nothing", mill.run(0, 9), FAILED);
        same("run in the other module", mill.run(1, 1), FAILED);
        mill.drop(0, 2);
        same("run as it was built", mill.run(0, 2), 11);
        refused(mill, INDEX, () -> mill.run(2, 16));
        refused(mill, INDEX, () -> mill.run(-1, 0));
        refused(mill, ARGUMENT, () -> mill.run(0, 16));
        refused(mill, ARGUMENT, () -> mill.run(0, -1));
    }

    /** Modules 1 to 7 of six procedures each, that call each other down to module 0. */
    private static CutoffMill chain() {
        CutoffMill mill = withModules(8);
        procedure(mill, 0, 6, 5, 6, NONE);
        for (int module = 1; module < 8; module++) {
            mill.bring(module, module - 1, 6, 0, false);
            for (int name = 1; name <= 6; name++) procedure(mill, module, name, 1, name - 1, NONE);
        }
        same("build of the chain", mill.build(8), 8);
        return mill;
    }

    private static void promise14Depth() {
        part = "promise 14, calls in each other";
        CutoffMill mill = chain();
        mill.bring(7, 1, 1, 7, false);
        mill.bring(7, 5, 5, 8, false);
        mill.bring(7, 5, 6, 9, false);
        procedure(mill, 7, 4, 1, 7, 8);
        procedure(mill, 7, 5, 1, 7, 9);
        mill.build(8);
        same("run while the end calls itself", mill.run(1, 1), FAILED);
        procedure(mill, 0, 6, 5, NONE, NONE);
        same("build(1)", mill.build(1), 1);
        same("run over 1 call", mill.run(1, 1), 6);
        same("run over 30 calls", mill.run(5, 6), 35);
        same("run over 31 calls", mill.run(6, 1), FAILED);
        same("run over 42 calls", mill.run(7, 6), FAILED);
        same("run over 30 calls by q", mill.run(7, 4), 41);
        same("run over 31 calls by q", mill.run(7, 5), FAILED);
        mill.declare(0, 6, PROCEDURE, true, 5, 9, NONE);
        same("build(1)", mill.build(1), 1);
        same("run to one with a fault", mill.run(1, 1), FAILED);
        constant(mill, 0, 6, 50);
        same("build(1)", mill.build(1), 1);
        same("run to what is a constant now", mill.run(1, 2), 52);
        mill.drop(0, 6);
        same("build(1)", mill.build(1), 1);
        same("run to what was not built", mill.run(1, 1), FAILED);
    }

    private static void promise14Calls() {
        part = "promise 14, calls in all";
        CutoffMill mill = withModules(3);
        procedure(mill, 0, 0, 1, 0, NONE);
        mill.bring(1, 0, NONE, 0, false);
        mill.bring(2, 0, NONE, 0, false);
        mill.bring(2, 1, NONE, 0, false);
        // Names 1 to 7: each calls the one before it twice; 2, 6, 14, 30, 62, 126, 254 calls in all.
        for (int name = 1; name <= 6; name++) procedure(mill, 1, name, 0, name - 1, name - 1);
        procedure(mill, 2, 7, 0, 6, 6);
        procedure(mill, 2, 8, 0, 3, 0);
        procedure(mill, 2, 9, 0, 6, 8);
        procedure(mill, 2, 10, 0, 7, 9);
        procedure(mill, 2, 11, 0, 10, NONE);
        mill.build(8);
        isBuilt(mill, 2, 9, 0, 0, 0, 2, 1, 6);
        procedure(mill, 0, 0, 1, NONE, NONE);
        same("build(1)", mill.build(1), 1);
        same("run over 254 calls", mill.run(2, 7), 128);
        same("run over 144 calls", mill.run(2, 9), 73);
        same("run over 400 calls", mill.run(2, 10), 201);
        same("run over 401 calls", mill.run(2, 11), FAILED);
        // As they are all built anew, they are small.
        mill.build(8);
        same("run without a call", mill.run(2, 11), 201);
    }

    private static void promise15() {
        part = "promise 15";
        CutoffMill mill = withModules(3);
        constant(mill, 0, 1, 1);
        constant(mill, 2, 1, 1);
        mill.declare(2, 2, CONSTANT, true, 1, 7, NONE);
        mill.bring(0, 1, 1, 1, false);
        mill.bring(1, 0, 1, 1, false);
        mill.bring(2, 5, 1, 1, false);
        mill.build(1);
        constant(mill, 0, 1, 2);
        mill.build(8);
        constant(mill, 0, 1, 1);
        mill.build(8);
        mill.build(8);
        constant(mill, 0, 1, 3);
        int[] due = {3, 3, 3, 2, 1, 1, 3, 3, 1, 4};
        for (int what = 0; what <= 9; what++) same("many(" + what + ")", mill.many(what), due[what]);
        refused(mill, ARGUMENT, () -> mill.many(10));
        refused(mill, ARGUMENT, () -> mill.many(-1));
    }

    private static void promise16() {
        part = "promise 16";
        CutoffMill mill = withModules(1);
        same("fetchedPart() of none", mill.fetchedPart() == 0.0, true);
        constant(mill, 0, 1, 1);
        mill.build(8);
        same("fetchedPart() of built ones", mill.fetchedPart() == 0.0, true);
        constant(mill, 0, 1, 2);
        mill.build(8);
        constant(mill, 0, 1, 1);
        mill.build(8);
        same("fetchedPart() of 1 in 3", mill.fetchedPart() == 1.0 / 3.0, true);
        constant(mill, 0, 1, 2);
        mill.build(8);
        same("fetchedPart() of 2 in 4", mill.fetchedPart() == 0.5, true);
    }

    /** Module 1 stale by an answer that a build of module 0 takes back. */
    private static CutoffMill takenBack() {
        CutoffMill mill = withModules(2);
        constant(mill, 0, 1, 1);
        mill.bring(1, 0, NONE, 0, false);
        mill.declare(1, 2, CONSTANT, true, 0, 1, NONE);
        mill.build(8);
        constant(mill, 0, 1, 2);
        mill.build(1);
        constant(mill, 0, 1, 1);
        return mill;
    }

    private static void promise17() {
        part = "promise 17";
        CutoffMill mill = withModules(2);
        same("wouldBuild()", mill.wouldBuild(), 2);
        constant(mill, 0, 1, 1);
        mill.bring(1, 0, NONE, 0, false);
        mill.declare(1, 2, CONSTANT, true, 0, 1, NONE);
        mill.build(8);
        same("wouldBuild()", mill.wouldBuild(), 0);
        constant(mill, 0, 1, 2);
        same("stale ones", mill.many(4), 1);
        same("wouldBuild(), with what gets stale", mill.wouldBuild(), 2);
        same("results", mill.many(6), 2);
        same("rings built", mill.many(7), 2);
        isBuilt(mill, 1, 2, 0, 0, 1);
        CutoffMill back = takenBack();
        same("stale ones", back.many(4), 2);
        same("wouldBuild(), without what is taken back", back.wouldBuild(), 1);
        renews(back, 0, 1);
    }

    private static void promise18() {
        part = "promise 18";
        CutoffMill mill = withModules(3);
        constant(mill, 0, 1, 1);
        procedure(mill, 0, 2, 1, 2, NONE);
        mill.bring(1, 0, NONE, 0, false);
        mill.declare(1, 3, CONSTANT, true, 0, 1, NONE);
        procedure(mill, 1, 4, 0, 2, NONE);
        long before = mill.digest();
        // Nothing is built, but it counts as if all was.
        same("builtBy of another number", mill.builtBy(0, 1, 2), 2);
        same("builtBy of its number", mill.builtBy(0, 1, 1), 0);
        same("builtBy of what is not small", mill.builtBy(0, 2, 99), 1);
        same("builtBy of what nobody looks for", mill.builtBy(1, 3, -99), 1);
        same("builtBy of none", mill.builtBy(0, 3, 0), 0);
        same("builtBy of none in the last one", mill.builtBy(2, 15, 0), 0);
        same("digest", mill.digest(), before);
        mill.build(8);
        same("builtBy of another number", mill.builtBy(0, 1, 2), 2);
        refused(mill, INDEX, () -> mill.builtBy(3, 16, 100));
        refused(mill, INDEX, () -> mill.builtBy(-1, 0, 0));
        refused(mill, ARGUMENT, () -> mill.builtBy(0, 16, 0));
        refused(mill, ARGUMENT, () -> mill.builtBy(0, -1, 0));
        refused(mill, ARGUMENT, () -> mill.builtBy(0, 1, 100));
        refused(mill, ARGUMENT, () -> mill.builtBy(0, 1, -100));
        // With a fault the number says nothing.
        mill.declare(0, 1, CONSTANT, true, 1, 9, NONE);
        same("builtBy with a fault", mill.builtBy(0, 1, 2), 1);
        CutoffMill apart = withModules(8);
        constant(apart, 0, 1, 1);
        same("builtBy of one of eight", apart.builtBy(0, 1, 2), 1);
    }

    private static void promise19() {
        part = "promise 19";
        CutoffMill mill = withModules(7);
        for (int workers = 1; workers <= 4; workers++) same("rounds", mill.rounds(workers), 7 / workers + (7 % workers > 0 ? 1 : 0));
        mill.bring(1, 0, 1, 1, false);
        mill.bring(2, 1, 1, 1, false);
        mill.bring(3, 2, 1, 1, false);
        // 0 1 2 3 one behind the other, 4 5 6 beside.
        same("rounds(1)", mill.rounds(1), 7);
        same("rounds(2)", mill.rounds(2), 4);
        same("rounds(4)", mill.rounds(4), 4);
        mill.bring(4, 6, 1, 1, false);
        mill.bring(6, 4, 1, 1, false);
        same("rounds(1) with a ring of two", mill.rounds(1), 6);
        mill.build(8);
        same("rounds of none", mill.rounds(1), 0);
        // 3 leans on 0 over those that are not stale; it waits for 0, that is stale.
        constant(mill, 0, 9, 1);
        constant(mill, 3, 9, 1);
        same("rounds(4) over others", mill.rounds(4), 2);
        constant(mill, 5, 9, 1);
        same("rounds(2)", mill.rounds(2), 2);
        same("rounds(1)", mill.rounds(1), 3);
        same("rounds(1), where one is taken back", takenBack().rounds(1), 1);
        same("nothing is changed", mill.many(4), 3);
        refused(mill, ARGUMENT, () -> mill.rounds(0));
        refused(mill, ARGUMENT, () -> mill.rounds(5));
    }

    private static void promise20() {
        part = "promise 20";
        CutoffMill mill = withModules(2);
        same("isAsNew() before a build", mill.isAsNew(), false);
        mill.build(1);
        same("isAsNew() after half of it", mill.isAsNew(), false);
        mill.build(1);
        same("isAsNew()", mill.isAsNew(), true);
        constant(mill, 1, 1, 1);
        same("isAsNew() behind an edit", mill.isAsNew(), false);
        mill.drop(1, 1);
        same("isAsNew() as it is taken back", mill.isAsNew(), true);
        same("isAsNew() where an answer is another one", takenBack().isAsNew(), false);
    }

    private static void promise21() {
        part = "promise 21";
        CutoffMill empty = new CutoffMill();
        long due = 58138;
        for (int k = 0; k < 13; k++) due = due * 31;
        same("digest() of a new object", empty.digest(), due * 31 + 1);
        for (int steps = 0; steps <= 2; steps++) {
            int done = steps;
            same("digest()", editedChain(steps).digest(), digestOf(() -> editedChain(done)));
        }
    }

    private static CutoffMill editedChain(int steps) {
        CutoffMill mill = chain();
        if (steps > 0) mill.declare(0, 6, PROCEDURE, true, 5, 9, NONE);
        if (steps > 0) mill.build(2);
        if (steps > 1) mill.build(8);
        return mill;
    }
}
