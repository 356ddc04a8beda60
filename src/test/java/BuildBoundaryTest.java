/** Part 4 of the document's terms, and promises 10 and 15 to 21: builds, the store, what would be. */
public final class BuildBoundaryTest extends Checks {
    public static void main(String[] args) {
        mostIs1To8();
        aBuildEndsAsOneMoreWouldBe();
        whatIsNotStaleIsNotCounted();
        staleAsItIsComeTo();
        aRingCountsOnce();
        ringsAreBuiltInTheirOrder();
        fetchedWithTheSameModules();
        fetchedWithTheSameTexts();
        fetchedWithTheAnswersOfNow();
        theStoreHolds10();
        theOldestGoesOut();
        fetchedIsTheNewest();
        whatIsNotStaleIsNotNewer();
        theStoreIsOneForAll();
        howOftenBuiltAndFetched();
        whatOfMany();
        whichPartWasFetched();
        whatWouldBeBuilt();
        builtByFirstBuildsAll();
        builtByOfNone();
        builtByAsFarAsItGoes();
        workersAre1To4();
        roundsOfAChain();
        roundsWaitOverOthers();
        roundsWhereItEnds();
        asNew();
        asNewBehindPartsOfABuild();
        digestOfAnEmptyMill();
        digestOfAFullMill();
        askingChangesNothing();
        end();
    }

    private static final int[] OUTSIDE = {Integer.MIN_VALUE, -1, 0, 9, Integer.MAX_VALUE};

    /** Throws IllegalArgumentException if most is not 1 to 8. */
    private static void mostIs1To8() {
        part = "most is 1 to 8";
        for (int most = 1; most <= 8; most++) {
            CutoffMill mill = withModules(8);
            same("build(" + most + ")", mill.build(most), most);
            same("stale ones", mill.many(4), 8 - most);
            same("build of the others", mill.build(8), 8 - most);
            same("builds", mill.many(9), 2);
        }
        for (int count = 0; count <= 8; count += 4) {
            CutoffMill mill = withModules(count);
            for (int most : OUTSIDE) refused(mill, ARGUMENT, () -> mill.build(most));
            same("builds", mill.many(9), 0);
        }
    }

    /** As one more would be, it ends. */
    private static void aBuildEndsAsOneMoreWouldBe() {
        part = "a build ends as one more would be";
        CutoffMill mill = withModules(5);
        same("build(2)", mill.build(2), 2);
        isOfModule(mill, 8, 0, 0, 1, 1, 1);
        same("build(4)", mill.build(4), 3);
        same("build(1)", mill.build(1), 0);
        constant(mill, 0, 0, 1);
        constant(mill, 4, 0, 1);
        same("build(1)", mill.build(1), 1);
        isOfModule(mill, 8, 0, 0, 0, 0, 1);
        // What is fetched counts, too.
        mill.drop(0, 0);
        same("build(1)", mill.build(1), 1);
        same("rings fetched", mill.many(8), 1);
        isOfModule(mill, 8, 0, 0, 0, 0, 1);
        same("build(1)", mill.build(1), 1);
        isOfModule(mill, 8, 0, 0, 0, 0, 0);
    }

    private static void whatIsNotStaleIsNotCounted() {
        part = "what is not stale is not counted";
        CutoffMill mill = withModules(8);
        mill.build(8);
        for (int module = 1; module < 8; module += 3) constant(mill, module, 0, 1);
        same("build(2)", mill.build(2), 2);
        isOfModule(mill, 8, 0, 0, 0, 0, 0, 0, 0, 1);
        same("build(2)", mill.build(2), 1);
        isOfModule(mill, 6, 1, 2, 1, 1, 2, 1, 1, 2);
    }

    /** Modules 0, 1 and 2, each with name 4: a constant of 1, and two that are it. */
    private static CutoffMill row() {
        CutoffMill mill = withModules(3);
        constant(mill, 0, 4, 1);
        for (int module = 1; module < 3; module++) {
            mill.bring(module, module - 1, 4, 5, false);
            constant(mill, module, 4, 0, 5, NONE);
        }
        mill.build(8);
        return mill;
    }

    /** One that is STALE, as it is come to. */
    private static void staleAsItIsComeTo() {
        part = "stale as it is come to";
        CutoffMill mill = row();
        constant(mill, 0, 4, 2);
        same("stale ones", mill.many(4), 1);
        renews(mill, 3, 0);
        isBuilt(mill, 2, 4, 0, 0, 2);
        // 1 is stale until 0 is built again, and 2 is not stale at all.
        constant(mill, 0, 4, 3);
        mill.build(1);
        same("stale ones", mill.many(4), 1);
        constant(mill, 0, 4, 2);
        same("stale ones", mill.many(4), 2);
        same("build(1)", mill.build(1), 1);
        same("stale ones", mill.many(4), 0);
        // With 1 stale by its text as well, it is built, but 2 stays.
        constant(mill, 0, 4, 3);
        constant(mill, 1, 4, -1, 5, NONE);
        renews(mill, 1, 1);
        isBuilt(mill, 1, 4, 0, 0, 2);
        isOfModule(mill, 6, 3, 3, 2);
    }

    private static void aRingCountsOnce() {
        part = "a ring counts once";
        CutoffMill mill = withModules(8);
        for (int module = 0; module < 8; module++) one(mill, module, (module + 1) % 8, 1, true);
        renews(mill, 1, 0);
        same("results", mill.many(6), 1);
        isOfModule(mill, 6, 1, 1, 1, 1, 1, 1, 1, 1);
        constant(mill, 6, 0, 1);
        renews(mill, 1, 0);
        mill.drop(6, 0);
        renews(mill, 0, 1);
        isOfModule(mill, 6, 2, 2, 2, 2, 2, 2, 2, 2);
        isOfModule(mill, 7, 1, 1, 1, 1, 1, 1, 1, 1);
        same("builtBy of none", mill.builtBy(0, 0, 0), 0);
        constant(mill, 7, 3, 3);
        same("builtBy", mill.builtBy(7, 3, 4), 1);
        same("rounds(4)", mill.rounds(4), 1);
    }

    private static void ringsAreBuiltInTheirOrder() {
        part = "rings are built in their order";
        CutoffMill mill = withModules(8);
        for (int module = 0; module < 7; module++) {
            mill.bring(module, module + 1, 4, 5, false);
            constant(mill, module, 4, 1, 5, 5);
        }
        constant(mill, 7, 4, 1);
        for (int module = 7; module >= 0; module--) {
            same("build(1)", mill.build(1), 1);
            for (int other = 0; other < 8; other++) same("stale", mill.ofModule(other, 8), other < module ? 1 : 0);
            isBuilt(mill, module, 4, 0, 0, (2 << 7 - module) - 1);
        }
    }

    /** FETCHED, if the STORE has a RESULT of it: one with the same MODULES, .. */
    private static void fetchedWithTheSameModules() {
        part = "fetched with the same modules";
        CutoffMill mill = withModules(2);
        one(mill, 0, 1, 4, true);
        renews(mill, 2, 0);
        one(mill, 1, 0, 4, true);
        // The text of 0 is the same, but it is another ring.
        renews(mill, 1, 0);
        mill.leave(1, 0);
        renews(mill, 0, 2);
        one(mill, 1, 0, 4, true);
        renews(mill, 0, 1);
        isOfModule(mill, 6, 2, 2);
        isOfModule(mill, 7, 2, 2);
        // Two modules with the same text are not the same modules.
        CutoffMill other = withModules(2);
        constant(other, 0, 4, 1);
        constant(other, 1, 4, 1);
        renews(other, 2, 0);
        // One that is there now, and on which it leans, is no module of the ring.
        CutoffMill late = withModules(1);
        one(late, 0, 1, 4, true);
        renews(late, 1, 0);
        constant(late, 0, 4, 1);
        renews(late, 1, 0);
        late.module();
        late.drop(0, 4);
        renews(late, 1, 1);
        isOfModule(late, 7, 1, 0);
    }

    /** .. the same TEXTS, .. */
    private static void fetchedWithTheSameTexts() {
        part = "fetched with the same texts";
        CutoffMill mill = withModules(2);
        one(mill, 0, 1, 4, true);
        one(mill, 1, 0, 4, true);
        // All four, and then all again: of both modules the text must be the same.
        for (int k = 0; k < 8; k++) {
            constant(mill, 0, 4, k / 2 % 2);
            constant(mill, 1, 4, k % 2);
            renews(mill, k < 4 ? 1 : 0, k < 4 ? 0 : 1);
            isBuilt(mill, 0, 4, 0, 0, k / 2 % 2);
            isBuilt(mill, 1, 4, 0, 0, k % 2);
        }
        // Imports in another order are another text.
        one(mill, 0, 1, 5, true);
        renews(mill, 1, 0);
        mill.leave(0, 0);
        one(mill, 0, 1, 4, true);
        renews(mill, 1, 0);
        mill.leave(0, 0);
        renews(mill, 0, 1);
    }

    /** .. and noted ANSWERS that are those of now. */
    private static void fetchedWithTheAnswersOfNow() {
        part = "fetched with the answers of now";
        CutoffMill mill = row();
        for (int number = 2; number <= 3; number++) {
            constant(mill, 0, 4, number);
            renews(mill, 3, 0);
        }
        // Of three results with the same text it is the one with this answer.
        for (int number : new int[] {1, 3, 2, 1}) {
            constant(mill, 0, 4, number);
            renews(mill, 0, 3);
            isBuilt(mill, 2, 4, 0, 0, number);
            same("run", mill.run(2, 4), number);
        }
        // The answer of 2 comes to it by another text of 1, so 1 is built and 2 not even stale.
        constant(mill, 0, 4, 2);
        constant(mill, 1, 4, -1, 5, NONE);
        renews(mill, 1, 1);
        isOfModule(mill, 8, 0, 0, 0);
        isBuilt(mill, 2, 4, 0, 0, 1);
        // Looked for, and not used for a number: an unbound one that turns into a clash, and back.
        CutoffMill back = withModules(3);
        all(back, 2, 0, false);
        all(back, 2, 1, false);
        procedure(back, 2, 5, 0, 4, NONE);
        renews(back, 3, 0);
        constant(back, 0, 4, 1);
        constant(back, 1, 4, 1);
        renews(back, 3, 0);
        isBuilt(back, 2, 5, 2);
        back.drop(0, 4);
        back.drop(1, 4);
        renews(back, 0, 3);
        isBuilt(back, 2, 5, 1);
    }

    /** A mill of one module whose name 4 was built with the numbers 0 to count - 1. */
    private static CutoffMill withResults(int count) {
        CutoffMill mill = withModules(1);
        for (int number = 0; number < count; number++) {
            constant(mill, 0, 4, number);
            renews(mill, 1, 0);
        }
        return mill;
    }

    /** The STORE holds 10 RESULTS. */
    private static void theStoreHolds10() {
        part = "the store holds 10";
        for (int count = 0; count <= 13; count++) {
            CutoffMill mill = withResults(count);
            same("results", mill.many(6), Math.min(count, 10));
            same("rings built", mill.many(7), count);
            if (count > 0) isBuilt(mill, 0, 4, 0, 0, count - 1);
        }
    }

    /** .. the newest ones. */
    private static void theOldestGoesOut() {
        part = "the oldest goes out";
        for (int count = 10; count <= 12; count++) {
            for (int number = 0; number < count - 1; number++) {
                CutoffMill mill = withResults(count);
                constant(mill, 0, 4, number);
                boolean isKept = number >= count - 10;
                renews(mill, isKept ? 0 : 1, isKept ? 1 : 0);
                isBuilt(mill, 0, 4, 0, 0, number);
                same("results", mill.many(6), 10);
            }
        }
    }

    /** FETCHED, it is the newest one from then on. */
    private static void fetchedIsTheNewest() {
        part = "what is fetched is the newest";
        for (int fetched = 0; fetched < 9; fetched++) {
            for (int number = 0; number < 10; number++) {
                CutoffMill mill = withResults(10);
                constant(mill, 0, 4, fetched);
                renews(mill, 0, 1);
                constant(mill, 0, 4, 50);
                renews(mill, 1, 0);
                constant(mill, 0, 4, number);
                // Without the fetch it would be 0 that goes out.
                boolean isOut = number == (fetched == 0 ? 1 : 0);
                renews(mill, isOut ? 1 : 0, isOut ? 0 : 1);
            }
        }
        // As the newest of ten, it goes out as the tenth one is built behind it.
        for (int behind = 9; behind <= 10; behind++) {
            CutoffMill mill = withResults(10);
            constant(mill, 0, 4, 3);
            renews(mill, 0, 1);
            for (int k = 0; k < behind; k++) {
                constant(mill, 0, 4, 50 + k);
                renews(mill, 1, 0);
            }
            constant(mill, 0, 4, 3);
            renews(mill, behind == 10 ? 1 : 0, behind == 10 ? 0 : 1);
        }
    }

    /** What is gone over, but not STALE, is neither BUILT nor FETCHED, and what goes out is BUILT all the same. */
    private static void whatIsNotStaleIsNotNewer() {
        part = "what is not stale is not newer";
        CutoffMill mill = withModules(2);
        constant(mill, 0, 4, 7);
        renews(mill, 2, 0);
        for (int number = 0; number < 8; number++) {
            constant(mill, 1, 4, number);
            renews(mill, 1, 0);
        }
        same("results", mill.many(6), 10);
        // The eleventh one puts that of module 0 out.
        constant(mill, 1, 4, 8);
        renews(mill, 1, 0);
        isWhy(mill, 0, 0, NONE, NONE, NONE);
        isBuilt(mill, 0, 4, 0, 0, 7);
        same("run", mill.run(0, 4), 7);
        constant(mill, 0, 4, 8);
        renews(mill, 1, 0);
        constant(mill, 0, 4, 7);
        renews(mill, 1, 0);
        same("results", mill.many(6), 10);
        // Edits that are taken back without a build between say nothing to the store.
        constant(mill, 0, 4, 8);
        constant(mill, 0, 4, 7);
        renews(mill, 0, 0);
        constant(mill, 0, 4, 8);
        renews(mill, 0, 1);
    }

    private static void theStoreIsOneForAll() {
        part = "the store is one for all";
        CutoffMill mill = withModules(8);
        renews(mill, 8, 0);
        same("results", mill.many(6), 8);
        for (int module = 0; module < 8; module++) constant(mill, module, 4, 1);
        renews(mill, 8, 0);
        same("results", mill.many(6), 10);
        // The texts of before: those of 6 and 7 are kept; that of 0 is built, and puts that of 6 out.
        for (int module = 0; module < 8; module++) mill.drop(module, 4);
        renews(mill, 8, 0);
        CutoffMill other = withModules(8);
        renews(other, 8, 0);
        for (int module = 0; module < 8; module++) constant(other, module, 4, 1);
        renews(other, 8, 0);
        other.drop(7, 4);
        renews(other, 0, 1);
        other.drop(6, 4);
        renews(other, 0, 1);
        other.drop(5, 4);
        renews(other, 1, 0);
    }

    private static void howOftenBuiltAndFetched() {
        part = "how often built and fetched";
        CutoffMill mill = withModules(3);
        one(mill, 0, 1, 9, true);
        one(mill, 1, 0, 9, true);
        isOfModule(mill, 6, 0, 0, 0);
        isOfModule(mill, 7, 0, 0, 0);
        for (int k = 0; k < 6; k++) {
            constant(mill, k % 3, 4, k / 3);
            mill.build(8);
        }
        // Texts that were there before: 0 and 1 as one ring with both numbers told back.
        constant(mill, 0, 4, 0);
        constant(mill, 1, 4, 0);
        constant(mill, 2, 4, 0);
        mill.build(8);
        isOfModule(mill, 6, 4, 4, 3);
        isOfModule(mill, 7, 1, 1, 1);
        int[] due = {3, 3, 2, 2, 0, 0, 7, 7, 2, 7};
        for (int what = 0; what <= 9; what++) same("many(" + what + ")", mill.many(what), due[what]);
        same("fetchedPart()", mill.fetchedPart() == 2.0 / 9.0, true);
    }

    private static void whatOfMany() {
        part = "what of many: 0 to 9";
        CutoffMill mill = row();
        for (int what = 0; what <= 9; what++) mill.many(what);
        for (int what : new int[] {-1, 10, Integer.MIN_VALUE, Integer.MAX_VALUE}) {
            refused(mill, ARGUMENT, () -> mill.many(what));
            refused(new CutoffMill(), ARGUMENT, () -> new CutoffMill().many(what));
        }
    }

    /** Which part of all RINGS that were BUILT or FETCHED ever were FETCHED, not cut; 0 without any. */
    private static void whichPartWasFetched() {
        part = "which part was fetched";
        CutoffMill mill = withModules(1);
        same("of none", mill.fetchedPart() == 0.0, true);
        mill.build(8);
        same("0 of 1", mill.fetchedPart() == 0.0, true);
        constant(mill, 0, 4, 1);
        mill.build(8);
        for (int k = 1; k <= 40; k++) {
            constant(mill, 0, 4, 0);
            if (k % 2 == 1) mill.drop(0, 4); else constant(mill, 0, 4, 1);
            mill.build(8);
            same(k + " of " + (k + 2), mill.fetchedPart() == (double) k / (k + 2), true);
        }
        mill.build(8);
        same("a build of none", mill.fetchedPart() == 40.0 / 42.0, true);
    }

    /** How many RINGS a build of all would BUILD or FETCH now. */
    private static void whatWouldBeBuilt() {
        part = "what would be built";
        for (int count = 0; count <= 8; count++) {
            CutoffMill mill = withModules(count);
            same("wouldBuild()", mill.wouldBuild(), count);
            if (count > 0) mill.build(1);
            same("wouldBuild() behind a build of one", mill.wouldBuild(), Math.max(0, count - 1));
            mill.build(8);
            same("wouldBuild() behind a build of all", mill.wouldBuild(), 0);
        }
        // What is stale now is not what would be built.
        CutoffMill mill = row();
        constant(mill, 0, 4, 2);
        same("stale ones", mill.many(4), 1);
        same("wouldBuild()", mill.wouldBuild(), 3);
        mill.build(1);
        constant(mill, 0, 4, 1);
        same("stale ones", mill.many(4), 2);
        same("wouldBuild()", mill.wouldBuild(), 1);
    }

    // ---- what would be

    /** If first all was built, and then the DECLARATION had that number. */
    private static void builtByFirstBuildsAll() {
        part = "builtBy first builds all";
        CutoffMill mill = withModules(3);
        constant(mill, 0, 4, 1);
        for (int module = 1; module < 3; module++) {
            mill.bring(module, module - 1, 4, 5, false);
            constant(mill, module, 4, 0, 5, NONE);
        }
        // Nothing is built yet.
        same("builtBy of its number", mill.builtBy(0, 4, 1), 0);
        same("builtBy of another one", mill.builtBy(0, 4, 2), 3);
        same("builtBy further on", mill.builtBy(1, 4, 2), 2);
        same("builtBy at the end", mill.builtBy(2, 4, 2), 1);
        mill.build(8);
        constant(mill, 0, 4, 9);
        // The number is told, but not built: the one of now counts.
        same("builtBy of its number", mill.builtBy(0, 4, 9), 0);
        same("builtBy of the one that was built", mill.builtBy(0, 4, 1), 3);
        constant(mill, 2, 3, 0);
        same("builtBy, where others are stale", mill.builtBy(1, 4, 1), 2);
        constant(mill, 2, 5, 0);
        same("builtBy, where it is not looked for any more", mill.builtBy(1, 4, 1), 1);
        same("stale ones", mill.many(4), 2);
        same("builds", mill.many(9), 1);
    }

    /** 0, if there is none of that NAME. */
    private static void builtByOfNone() {
        part = "builtBy of none";
        CutoffMill mill = withModules(8);
        for (int module = 0; module < 8; module++) {
            for (int name = 0; name <= 15; name += 5) same("builtBy", mill.builtBy(module, name, 0), 0);
        }
        constant(mill, 3, 4, 1);
        mill.build(8);
        mill.drop(3, 4);
        same("builtBy of what was built, but is dropped", mill.builtBy(3, 4, 2), 0);
        constant(mill, 3, 5, 1);
        same("builtBy of what is told since", mill.builtBy(3, 5, 2), 1);
    }

    private static void builtByAsFarAsItGoes() {
        part = "builtBy as far as it goes";
        CutoffMill mill = withModules(8);
        procedure(mill, 0, 4, 1, NONE, NONE);
        for (int module = 1; module < 8; module++) {
            mill.bring(module, module - 1, 4, 5, false);
            procedure(mill, module, 4, 1, 5, NONE);
        }
        same("builtBy of small ones", mill.builtBy(0, 4, -99), 8);
        same("builtBy of small ones", mill.builtBy(0, 4, 99), 8);
        // Behind one that is not small a number is no part of an answer.
        procedure(mill, 3, 4, 1, 5, 4);
        same("builtBy, cut off at 3", mill.builtBy(0, 4, 2), 4);
        same("builtBy of 3", mill.builtBy(3, 4, 2), 1);
        // With a fault the number says nothing, whichever it is.
        procedure(mill, 3, 4, 1, 5, 9);
        same("builtBy of one with a fault", mill.builtBy(3, 4, 2), 1);
        same("builtBy, cut off at a fault", mill.builtBy(1, 4, 2), 3);
        mill.declare(0, 4, CONSTANT, false, 1, NONE, NONE);
        same("builtBy of what is not public", mill.builtBy(0, 4, 2), 1);
        // Numbers that come to the same: going round, as 2^32 times the same is 0.
        CutoffMill round = withModules(8);
        for (int k = 0; k <= 32; k++) {
            int to = k % 6 > 0 ? k % 6 - 1 : k > 0 ? 15 : NONE;
            if (k % 6 == 0 && k > 0) round.bring(k / 6, k / 6 - 1, 5, 15, false);
            constant(round, k / 6, k % 6, k == 0 ? 1 : 0, to, to);
        }
        round.bring(6, 5, 2, 14, false);
        round.bring(6, 5, 1, 13, false);
        constant(round, 6, 5, 0, 14, NONE);
        round.build(8);
        isBuilt(round, 5, 2, 0, 0, 0);
        isBuilt(round, 5, 1, 0, 0, Integer.MIN_VALUE);
        same("builtBy, cut off as it goes round", round.builtBy(0, 0, 3), 6);
        constant(round, 6, 5, 0, 13, NONE);
        round.build(8);
        same("builtBy of one more by 2, where half of it is looked for", round.builtBy(0, 0, 3), 6);
        same("builtBy of one more, where half of it is looked for", round.builtBy(0, 0, 2), 7);
    }

    /** Throws IllegalArgumentException if workers is not 1 to 4. */
    private static void workersAre1To4() {
        part = "workers are 1 to 4";
        for (int count = 0; count <= 8; count++) {
            CutoffMill mill = withModules(count);
            for (int workers = 1; workers <= 4; workers++) {
                same("rounds(" + workers + ") of " + count, mill.rounds(workers), (count + workers - 1) / workers);
            }
            for (int workers : new int[] {Integer.MIN_VALUE, -1, 0, 5, Integer.MAX_VALUE}) {
                refused(mill, ARGUMENT, () -> mill.rounds(workers));
            }
        }
    }

    /** Those that are STALE as it begins, and LEAN ON none that is. */
    private static void roundsOfAChain() {
        part = "rounds of a chain";
        CutoffMill mill = withModules(8);
        for (int module = 0; module < 7; module++) one(mill, module, module + 1, 4, true);
        for (int workers = 1; workers <= 4; workers++) same("rounds(" + workers + ")", mill.rounds(workers), 8);
        mill.leave(3, 0);
        // 3 2 1 0 beside 7 6 5 4.
        same("rounds(1)", mill.rounds(1), 8);
        for (int workers = 2; workers <= 4; workers++) same("rounds(" + workers + ")", mill.rounds(workers), 4);
        one(mill, 3, 7, 4, true);
        // 7, then 3 and 6, 2 and 5, 1 and 4, and 0.
        same("rounds(1)", mill.rounds(1), 8);
        same("rounds(2)", mill.rounds(2), 5);
        one(mill, 7, 4, 4, true);
        // 4 to 7 are one ring.
        for (int workers = 1; workers <= 4; workers++) same("rounds(" + workers + ")", mill.rounds(workers), 5);
        mill.build(8);
        for (int workers = 1; workers <= 4; workers++) same("rounds(" + workers + ")", mill.rounds(workers), 0);
        // Of those that can be at once it is the first ones in the order that are.
        CutoffMill wide = withModules(6);
        one(wide, 5, 0, 4, true);
        one(wide, 4, 5, 4, true);
        // 0 1, 2 3, 5, 4; with three 0 1 2, 3 5, 4.
        same("rounds(2)", wide.rounds(2), 4);
        same("rounds(3)", wide.rounds(3), 3);
    }

    /** Over however many, but itself. */
    private static void roundsWaitOverOthers() {
        part = "rounds wait over others";
        CutoffMill mill = row();
        constant(mill, 0, 9, 1);
        constant(mill, 2, 9, 1);
        // 1 is not stale, and 2 waits for 0 over it.
        same("stale ones", mill.many(4), 2);
        same("rounds(4)", mill.rounds(4), 2);
        mill.build(8);
        constant(mill, 0, 4, 5);
        constant(mill, 2, 4, 5, 5, NONE);
        // 1 gets stale as 0 is built.
        same("stale ones", mill.many(4), 2);
        same("rounds(4)", mill.rounds(4), 3);
        // A ring leans on itself, over others of it, too.
        CutoffMill ring = withModules(3);
        for (int module = 0; module < 3; module++) one(ring, module, (module + 1) % 3, 4, true);
        same("rounds(1)", ring.rounds(1), 1);
    }

    private static void roundsWhereItEnds() {
        part = "rounds, where it ends";
        CutoffMill mill = row();
        constant(mill, 0, 9, 9);
        same("rounds(1), where nobody looks for it", mill.rounds(1), 1);
        mill.build(8);
        constant(mill, 0, 4, 2);
        same("rounds(1), where all do", mill.rounds(1), 3);
        mill.build(1);
        constant(mill, 0, 4, 1);
        // 1 is stale now, but not any more as 0 is built.
        same("stale ones", mill.many(4), 2);
        same("rounds(4), where it is taken back", mill.rounds(4), 1);
        constant(mill, 1, 4, 0, 5, 9);
        same("rounds(4), where its text is another one, too", mill.rounds(4), 3);
    }

    /** With no RING STALE. */
    private static void asNew() {
        part = "as new";
        CutoffMill mill = new CutoffMill();
        same("isAsNew() of none", mill.isAsNew(), true);
        for (int count = 1; count <= 8; count++) {
            mill.module();
            same("isAsNew() with a new module", mill.isAsNew(), false);
            mill.build(1);
            same("isAsNew() built", mill.isAsNew(), true);
        }
        constant(mill, 7, 4, 1);
        same("isAsNew() edited", mill.isAsNew(), false);
        mill.drop(7, 4);
        same("isAsNew() taken back", mill.isAsNew(), true);
        constant(mill, 7, 4, 1);
        mill.build(8);
        mill.drop(7, 4);
        same("isAsNew() edited", mill.isAsNew(), false);
        mill.build(8);
        same("isAsNew() fetched", mill.isAsNew(), true);
        same("rings fetched", mill.many(8), 1);
        // Names that change nothing of what was built: leaning on what has just come.
        CutoffMill late = withModules(1);
        one(late, 0, 1, 4, true);
        procedure(late, 0, 5, 1, 4, NONE);
        late.build(8);
        same("isAsNew() with a fault", late.isAsNew(), true);
        late.module();
        same("isAsNew() with a new module", late.isAsNew(), false);
        late.build(8);
        same("isAsNew() built", late.isAsNew(), true);
        isOfModule(late, 6, 1, 1);
    }

    private static void asNewBehindPartsOfABuild() {
        part = "as new behind parts of a build";
        CutoffMill mill = row();
        same("isAsNew()", mill.isAsNew(), true);
        constant(mill, 0, 4, 2);
        for (int module = 0; module < 3; module++) {
            same("isAsNew() on the way", mill.isAsNew(), false);
            same("build(1)", mill.build(1), 1);
        }
        same("isAsNew()", mill.isAsNew(), true);
        constant(mill, 0, 4, 3);
        mill.build(1);
        constant(mill, 0, 4, 2);
        same("isAsNew() before it is taken back", mill.isAsNew(), false);
        mill.build(1);
        same("isAsNew() as it is taken back", mill.isAsNew(), true);
        // All edges of cutting off: which fault, which number, which way.
        constant(mill, 0, 4, 9, 9, NONE);
        mill.build(8);
        constant(mill, 0, 4, 9, 4, NONE);
        renews(mill, 1, 0);
        same("isAsNew() behind another fault", mill.isAsNew(), true);
        hasFaults(mill, 4, 0, 4, 5, 1, 4, 5, 2, 4);
    }

    /** A number d starts with 58138; .. d becomes d * 31 + v. */
    private static void digestOfAnEmptyMill() {
        part = "digest of an empty mill";
        CutoffMill mill = new CutoffMill();
        long due = 58138;
        for (int k = 0; k < 10 + 3; k++) due = due * 31;
        due = due * 31 + 1;
        same("digest()", mill.digest(), due);
        mill.build(1);
        due = 58138;
        for (int k = 0; k < 9; k++) due = due * 31;
        due = due * 31 + 1;
        for (int k = 0; k < 3; k++) due = due * 31;
        same("digest() behind a build", mill.digest(), due * 31 + 1);
    }

    /** Full of modules, declarations and imports; behind so many steps. */
    private static CutoffMill full(int steps) {
        CutoffMill mill = withModules(8);
        for (int k = 0; k < 48; k++) mill.declare(k / 6, 2 * (k % 6), k % 2, k % 5 != 0, k - 24, k % 16, k % 7 * 2);
        for (int k = 0; k < 40; k++) mill.bring(k / 5, (k / 5 + 1 + k % 7) % 8, k % 3 == 0 ? NONE : k % 16, k % 3 == 0 ? 0 : k % 11, k % 4 != 0);
        if (steps > 0) mill.build(2);
        if (steps > 1) mill.build(8);
        if (steps > 2) mill.leave(3, 1);
        if (steps > 2) mill.drop(4, 2);
        return mill;
    }

    private static void digestOfAFullMill() {
        part = "digest of a full mill";
        for (int steps = 0; steps <= 3; steps++) {
            int done = steps;
            CutoffMill mill = full(steps);
            long due = digestOf(() -> full(done));
            same("digest()", mill.digest(), due);
            same("digest() again", mill.digest(), due);
        }
        // Where the rounds of 1, 2 and 3 workers are not as many.
        for (int count = 1; count <= 8; count++) {
            int modules = count;
            same("digest()", withModules(count).digest(), digestOf(() -> withModules(modules)));
        }
    }

    /** All that asks, and what would be. */
    private static void askAll(CutoffMill mill) {
        for (int module = 0; module < mill.many(0); module++) {
            mill.ofModule(module, 8);
            mill.why(module, 2);
            mill.within(module, 4, 0);
            mill.outside(module, 4, 5);
            mill.built(module, 4, 2);
            mill.run(module, 4);
            for (int name = 3; name <= 5; name++) mill.builtBy(module, name, 98);
        }
        mill.wouldBuild();
        for (int workers = 1; workers <= 4; workers++) mill.rounds(workers);
        mill.isAsNew();
        mill.fetchedPart();
        mill.digest();
    }

    /** What would be (nothing is changed): neither what can be asked nor what the store holds, and in which order. */
    private static void askingChangesNothing() {
        part = "asking changes nothing";
        for (int oldest = 0; oldest < 12; oldest++) {
            CutoffMill asked = withModules(2);
            CutoffMill plain = withModules(2);
            one(asked, 1, 0, 4, true);
            one(plain, 1, 0, 4, true);
            constant(asked, 1, 5, 0, 4, NONE);
            constant(plain, 1, 5, 0, 4, NONE);
            for (int step = 0; step < 14; step++) {
                int number = step < 12 ? step : step == 12 ? oldest : 3;
                constant(asked, 0, 4, number);
                constant(plain, 0, 4, number);
                askAll(asked);
                int most = step % 3 == 0 ? 1 : 8;
                same("build(" + most + ")", asked.build(most), plain.build(most));
                same("digest()", asked.digest(), plain.digest());
            }
        }
    }
}
