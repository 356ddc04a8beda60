import java.util.Arrays;

/**
 * A compiler that builds modules anew only where it must.
 *
 * <p>A NAME in a MODULE is told by one number throughout, its slot: module * 16 + name.
 */
public final class CutoffMill {
    private static final int NONE = -1;
    private static final int CLASH = -2;
    private static final int MODULES = 8;
    private static final int NAMES = 16;
    private static final int SLOTS = MODULES * NAMES;
    private static final int MOST_DECLARATIONS = 6;
    private static final int MOST_IMPORTS = 5;
    private static final int MOST_RESULTS = 10;
    private static final int MOST_NUMBER = 99;
    private static final int MOST_WORKERS = 4;
    private static final int MOST_DEPTH = 30;
    private static final int MOST_CALLS = 400;
    private static final int NO_VALUE = -1000000;

    private final Texts texts;
    private final Names names;
    private final Rings rings;
    private final Works works;
    private final Works trial;
    private final int[] openCalls;
    private final int[] builtTimes;
    private final int[] fetchedTimes;
    private int ringsBuilt;
    private int ringsFetched;
    private int builds;

    public CutoffMill() {
        texts = new Texts();
        names = new Names(texts);
        rings = new Rings(texts);
        works = new Works(texts, names, rings, MOST_RESULTS);
        // What a build gives is the same from the store or not, so a trial needs no store.
        trial = new Works(new Texts(), names, rings, 0);
        openCalls = new int[2 * MOST_CALLS];
        builtTimes = new int[MODULES];
        fetchedTimes = new int[MODULES];
    }

    // ---- texts

    public int module() throws IllegalStateException {
        if (texts.moduleCount >= MODULES) {
            throw new IllegalStateException("there are 8 modules");
        }
        texts.moduleCount++;
        settle();
        return texts.moduleCount - 1;
    }

    public int declare(int module, int name, int kind, boolean isPublic, int number, int p, int q)
            throws IndexOutOfBoundsException, IllegalArgumentException, IllegalStateException {
        checkModule(module);
        checkWithin(name, 0, NAMES - 1);
        checkWithin(kind, 0, 1);
        checkWithin(number, -MOST_NUMBER, MOST_NUMBER);
        checkWithin(p, NONE, NAMES - 1);
        checkWithin(q, NONE, NAMES - 1);
        int slot = module * NAMES + name;
        if (!texts.isDeclared(slot) && texts.declarationsOf(module) >= MOST_DECLARATIONS) {
            throw new IllegalStateException("there are 6 declarations of other names");
        }
        texts.declarations[slot] = Declaration.of(kind, isPublic, number, p, q);
        settle();
        return texts.declarationsOf(module);
    }

    public boolean drop(int module, int name)
            throws IndexOutOfBoundsException, IllegalArgumentException {
        checkModule(module);
        checkWithin(name, 0, NAMES - 1);
        int slot = module * NAMES + name;
        boolean wasThere = texts.isDeclared(slot);
        texts.declarations[slot] = Declaration.NO_DECLARATION;
        settle();
        return wasThere;
    }

    public int bring(int module, int from, int name, int under, boolean isAgain)
            throws IndexOutOfBoundsException, IllegalArgumentException, IllegalStateException {
        checkModule(module);
        checkWithin(from, 0, MODULES - 1);
        checkWithin(name, NONE, NAMES - 1);
        checkWithin(under, 0, NAMES - 1);
        if (from == module) {
            throw new IllegalArgumentException("a module imports nothing from itself");
        }
        if (name == NONE && under != 0) {
            throw new IllegalArgumentException("an import of all is under no name but 0");
        }
        if (texts.importCounts[module] >= MOST_IMPORTS) {
            throw new IllegalStateException("there are 5 imports");
        }
        texts.addImport(module, Import.of(from, name, under, isAgain));
        settle();
        return texts.importCounts[module] - 1;
    }

    public int leave(int module, int k) throws IndexOutOfBoundsException {
        checkModule(module);
        if (k < 0 || k >= texts.importCounts[module]) {
            throw new IndexOutOfBoundsException("there is no such import");
        }
        texts.removeImport(module, k);
        settle();
        return texts.importCounts[module];
    }

    public int ofModule(int module, int what)
            throws IndexOutOfBoundsException, IllegalArgumentException {
        checkModule(module);
        checkWithin(what, 0, 8);
        int ring = rings.ringOf[module];
        switch (what) {
            case 0: return texts.declarationsOf(module);
            case 1: return texts.importCounts[module];
            case 2: return Rings.smallestOf(ring);
            case 3: return rings.placeOf[module];
            case 4: return rings.leansOn[module];
            case 5: return names.wantedBy(module);
            case 6: return builtTimes[module];
            case 7: return fetchedTimes[module];
            default: return works.reasonOf(ring) == 0 ? 0 : 1;
        }
    }

    // ---- names

    public int within(int module, int name, int what)
            throws IndexOutOfBoundsException, IllegalArgumentException {
        checkModule(module);
        checkWithin(name, 0, NAMES - 1);
        checkWithin(what, 0, 1);
        return partOf(names.within[module * NAMES + name], what);
    }

    public int outside(int module, int name, int what)
            throws IndexOutOfBoundsException, IllegalArgumentException {
        checkModule(module);
        checkWithin(name, 0, NAMES - 1);
        checkWithin(what, 0, 5);
        int found = names.outside[module * NAMES + name];
        if (what <= 1) {
            return partOf(found, what);
        }
        return found < 0 ? 0 : Answer.trait(works.stateOf(found).answers[found], what);
    }

    // ---- builds

    public int build(int most) throws IllegalArgumentException {
        checkWithin(most, 1, MODULES);
        builds++;
        int renewed = 0;
        for (int place = 0; place < rings.count && renewed < most; place++) {
            int ring = rings.order[place];
            if (works.reasonOf(ring) != 0) {
                countRenewal(ring, works.renew(ring));
                renewed++;
            }
        }
        return renewed;
    }

    public int why(int module, int what)
            throws IndexOutOfBoundsException, IllegalArgumentException {
        checkModule(module);
        checkWithin(what, 0, 3);
        int ring = rings.ringOf[module];
        int reason = works.reasonOf(ring);
        switch (what) {
            case 0: return reason;
            case 1: return works.culpritOf(ring, reason);
            default: return reason == Works.OTHER_ANSWER
                    ? partOf(works.firstOtherAnswer(works.resultOf(ring)), what - 2) : NONE;
        }
    }

    public int built(int module, int name, int what)
            throws IndexOutOfBoundsException, IllegalArgumentException {
        checkModule(module);
        checkWithin(name, 0, NAMES - 1);
        checkWithin(what, 0, 5);
        int slot = module * NAMES + name;
        Result state = works.stateOf(slot);
        if (!state.texts.isDeclared(slot)) {
            return NONE;
        }
        switch (what) {
            case 0: return state.faults[slot];
            case 1: return Answer.trait(state.answers[slot], Answer.IS_SMALL);
            case 2: return state.numbers[slot];
            case 3: return state.callCount(slot);
            default: return partOf(state.firstCalls[slot], what - 4);
        }
    }

    public int fault(int k, int what)
            throws IndexOutOfBoundsException, IllegalArgumentException {
        int slot = slotOfFault(k);
        if (slot == NONE) {
            throw new IndexOutOfBoundsException("there is no such fault");
        }
        checkWithin(what, 0, 2);
        return what == 0 ? works.stateOf(slot).faults[slot] : partOf(slot, what - 1);
    }

    public int run(int module, int name)
            throws IndexOutOfBoundsException, IllegalArgumentException {
        checkModule(module);
        checkWithin(name, 0, NAMES - 1);
        return valueOf(module * NAMES + name);
    }

    public int many(int what) throws IllegalArgumentException {
        checkWithin(what, 0, 9);
        switch (what) {
            case 0: return texts.moduleCount;
            case 1: return texts.allDeclarations();
            case 2: return texts.allImports();
            case 3: return rings.count;
            case 4: return works.staleCount();
            case 5: return works.faultCount();
            case 6: return works.store.count;
            case 7: return ringsBuilt;
            case 8: return ringsFetched;
            default: return builds;
        }
    }

    public double fetchedPart() {
        int all = ringsBuilt + ringsFetched;
        return all == 0 ? 0.0 : (double) ringsFetched / (double) all;
    }

    // ---- what would be (nothing is changed)

    public int wouldBuild() {
        trial.startFrom(works);
        return trial.renewAll();
    }

    public int builtBy(int module, int name, int number)
            throws IndexOutOfBoundsException, IllegalArgumentException {
        checkModule(module);
        checkWithin(name, 0, NAMES - 1);
        checkWithin(number, -MOST_NUMBER, MOST_NUMBER);
        int slot = module * NAMES + name;
        if (!texts.isDeclared(slot)) {
            return 0;
        }
        trial.startFrom(works);
        trial.renewAll();
        // Names and rings don't ask for numbers, so they are those of the trial, too.
        trial.texts.declarations[slot] = Declaration.withNumber(texts.declarations[slot], number);
        return trial.renewAll();
    }

    public int rounds(int workers) throws IllegalArgumentException {
        checkWithin(workers, 1, MOST_WORKERS);
        trial.startFrom(works);
        int through = 0;
        // No ring is renewed twice, so there are no more rounds than rings.
        while (through < MODULES && trial.renewRound(workers) > 0) {
            through++;
        }
        return through;
    }

    public boolean isAsNew() {
        // The states of a ring follow from its texts and its answers alone; where these are
        // those of now, ring behind ring, a build from nothing would give the same states.
        return works.staleCount() == 0;
    }

    public long digest() {
        long d = 58138;
        for (int what = 0; what <= 9; what++) {
            d = d * 31 + many(what);
        }
        for (int module = 0; module < texts.moduleCount; module++) {
            d = digestOfModule(d, module);
        }
        int faults = works.faultCount();
        for (int k = 0; k < faults; k++) {
            for (int what = 0; what <= 2; what++) {
                d = d * 31 + fault(k, what);
            }
        }
        d = d * 31 + wouldBuild();
        d = d * 31 + rounds(1);
        d = d * 31 + rounds(2);
        return d * 31 + (isAsNew() ? 1 : 0);
    }

    private long digestOfModule(long before, int module) {
        long d = before;
        for (int what = 0; what <= 8; what++) {
            d = d * 31 + ofModule(module, what);
        }
        for (int what = 0; what <= 3; what++) {
            d = d * 31 + why(module, what);
        }
        for (int name = 0; name < NAMES; name++) {
            d = digestOfName(d, module, name);
        }
        return d;
    }

    private long digestOfName(long before, int module, int name) {
        long d = before;
        for (int what = 0; what <= 1; what++) {
            d = d * 31 + within(module, name, what);
        }
        for (int what = 0; what <= 5; what++) {
            d = d * 31 + outside(module, name, what);
        }
        for (int what = 0; what <= 5; what++) {
            d = d * 31 + built(module, name, what);
        }
        return d * 31 + run(module, name);
    }

    private void checkModule(int module) {
        if (module < 0 || module >= texts.moduleCount) {
            throw new IndexOutOfBoundsException("there is no such module");
        }
    }

    private static void checkWithin(int value, int least, int most) {
        if (value < least || value > most) {
            throw new IllegalArgumentException("a number is out of its bounds");
        }
    }

    /** Names and rings follow from the texts, so each edit ends with this. */
    private void settle() {
        names.settle();
        rings.settle();
    }

    private static void clear(boolean[] marks) {
        for (int k = 0; k < marks.length; k++) {
            marks[k] = false;
        }
    }

    /** Of a slot the module (0) or the name (1); NONE and CLASH stand for themselves. */
    private static int partOf(int slot, int part) {
        if (slot < 0) {
            return slot;
        }
        return part == 0 ? slot / NAMES : slot % NAMES;
    }

    private void countRenewal(int ring, boolean isFetched) {
        if (isFetched) {
            ringsFetched++;
        } else {
            ringsBuilt++;
        }
        int[] times = isFetched ? fetchedTimes : builtTimes;
        for (int module = 0; module < MODULES; module++) {
            if (Rings.has(ring, module)) {
                times[module]++;
            }
        }
    }

    private int slotOfFault(int k) {
        int before = 0;
        for (int slot = 0; slot < SLOTS; slot++) {
            if (works.isFaulty(slot)) {
                if (before == k) {
                    return slot;
                }
                before++;
            }
        }
        return NONE;
    }

    /**
     * What a run from this slot gives. The calls still open stand in a row, each with its depth;
     * a sum does not ask for their order, and each reason to fail gives the same.
     */
    private int valueOf(int slot) {
        int sum = 0;
        int open = 1;
        openCalls[0] = slot;
        for (int calls = 0; calls <= MOST_CALLS && open > 0; calls++) {
            open--;
            int depth = openCalls[open] / SLOTS;
            int called = openCalls[open] % SLOTS;
            Result state = works.stateOf(called);
            if (depth > MOST_DEPTH || state.faults[called] != 0) {
                return NO_VALUE;
            }
            sum += state.numbers[called];
            open = openCall(open, state.secondCalls[called], depth + 1);
            open = openCall(open, state.firstCalls[called], depth + 1);
        }
        return open > 0 ? NO_VALUE : sum;
    }

    private int openCall(int open, int slot, int depth) {
        if (slot == NONE || open >= openCalls.length) {
            return open;
        }
        openCalls[open] = depth * SLOTS + slot;
        return open + 1;
    }

    /** A declaration in one int, so that two are the same if their ints are. */
    private static final class Declaration {
        static final int NO_DECLARATION = 0;

        static int of(int kind, boolean isPublic, int number, int p, int q) {
            return 1 | kind << 1 | (isPublic ? 1 << 2 : 0)
                    | (number + MOST_NUMBER) << 3 | (p + 1) << 11 | (q + 1) << 16;
        }

        static int withNumber(int declaration, int number) {
            return declaration & ~(0xFF << 3) | (number + MOST_NUMBER) << 3;
        }

        static boolean isProcedure(int declaration) {
            return (declaration >> 1 & 1) == 1;
        }

        static boolean isPublic(int declaration) {
            return (declaration >> 2 & 1) == 1;
        }

        static int numberOf(int declaration) {
            return (declaration >> 3 & 0xFF) - MOST_NUMBER;
        }

        /** The name of p (0) or q (1). */
        static int reference(int declaration, int side) {
            return (declaration >> (side == 0 ? 11 : 16) & 0x1F) - 1;
        }
    }

    /** An import in one int, so that two are the same if their ints are. */
    private static final class Import {
        static int of(int from, int name, int under, boolean isAgain) {
            return from | (name + 1) << 3 | under << 8 | (isAgain ? 1 << 12 : 0);
        }

        static boolean isOfAll(int brought) {
            return (brought >> 3 & 0x1F) == 0;
        }

        static boolean isAgain(int brought) {
            return (brought >> 12 & 1) == 1;
        }

        static int from(int brought) {
            return brought & 7;
        }

        static int under(int brought) {
            return brought >> 8 & 0xF;
        }

        /** The slot that is looked for by an import of one name. */
        static int source(int brought) {
            return from(brought) * NAMES + (brought >> 3 & 0x1F) - 1;
        }
    }

    /**
     * An answer that is a declaration of another ring, in one long, so that two are the same if
     * their longs are. A mark sets it off from a declaration of the own ring, which is its slot.
     */
    private static final class Answer {
        static final int IS_CONSTANT = 2;
        static final int HAS_FAULT = 3;
        static final int IS_SMALL = 4;

        static long of(int slot, boolean isConstant, boolean hasFault, boolean isSmall, int number) {
            return slot | SLOTS | (isConstant ? 1 << 8 : 0) | (hasFault ? 1 << 9 : 0)
                    | (isSmall ? 1 << 10 : 0) | (number & 0xFFFFFFFFL) << 11;
        }

        /** By the numbers of the face: whether a constant, with a fault, small (1 or 0); the number. */
        static int trait(long answer, int what) {
            switch (what) {
                case IS_CONSTANT: return (int) (answer >> 8 & 1);
                case HAS_FAULT: return (int) (answer >> 9 & 1);
                case IS_SMALL: return (int) (answer >> 10 & 1);
                default: return (int) (answer >> 11);
            }
        }
    }

    /** The texts of the modules. */
    private static final class Texts {
        final int[] declarations = new int[SLOTS];
        final int[] imports = new int[MODULES * MOST_IMPORTS];
        final int[] importCounts = new int[MODULES];
        int moduleCount;

        boolean isDeclared(int slot) {
            return declarations[slot] != Declaration.NO_DECLARATION;
        }

        int declarationsOf(int module) {
            int count = 0;
            for (int name = 0; name < NAMES; name++) {
                if (isDeclared(module * NAMES + name)) {
                    count++;
                }
            }
            return count;
        }

        int allDeclarations() {
            int count = 0;
            for (int module = 0; module < moduleCount; module++) {
                count += declarationsOf(module);
            }
            return count;
        }

        int allImports() {
            int count = 0;
            for (int module = 0; module < moduleCount; module++) {
                count += importCounts[module];
            }
            return count;
        }

        int importAt(int module, int k) {
            return imports[module * MOST_IMPORTS + k];
        }

        void addImport(int module, int brought) {
            imports[module * MOST_IMPORTS + importCounts[module]] = brought;
            importCounts[module]++;
        }

        void removeImport(int module, int k) {
            importCounts[module]--;
            for (int place = k; place < importCounts[module]; place++) {
                imports[module * MOST_IMPORTS + place] = imports[module * MOST_IMPORTS + place + 1];
            }
        }

        boolean isSame(Texts other, int module) {
            if (importCounts[module] != other.importCounts[module]) {
                return false;
            }
            for (int k = 0; k < importCounts[module]; k++) {
                if (importAt(module, k) != other.importAt(module, k)) {
                    return false;
                }
            }
            for (int slot = module * NAMES; slot < module * NAMES + NAMES; slot++) {
                if (declarations[slot] != other.declarations[slot]) {
                    return false;
                }
            }
            return true;
        }

        void copy(Texts other) {
            System.arraycopy(other.declarations, 0, declarations, 0, SLOTS);
            System.arraycopy(other.imports, 0, imports, 0, MODULES * MOST_IMPORTS);
            System.arraycopy(other.importCounts, 0, importCounts, 0, MODULES);
            moduleCount = other.moduleCount;
        }
    }

    /** What each name is, from outside and within, and what each module looks for. */
    private static final class Names {
        private final Texts texts;
        final int[] outside = new int[SLOTS];
        final int[] within = new int[SLOTS];
        /** At module * 8 + target: the set of names that the module looks for in the target. */
        private final int[] wanted = new int[MODULES * MODULES];
        /** What the first import of one name under this name looks for, or NONE. */
        private final int[] sources = new int[SLOTS];
        private final int[] sourcesAgain = new int[SLOTS];
        /** By modules, the set of modules from which all is imported. */
        private final int[] allFrom = new int[MODULES];
        private final int[] allFromAgain = new int[MODULES];

        Names(Texts texts) {
            this.texts = texts;
        }

        void settle() {
            settleImports();
            settleOutside();
            Arrays.fill(wanted, 0);
            for (int slot = 0; slot < texts.moduleCount * NAMES; slot++) {
                within[slot] = texts.isDeclared(slot) ? slot
                        : broughtTo(slot, sources[slot], allFrom[slot / NAMES]);
                wantReferences(slot);
            }
        }

        private void settleImports() {
            Arrays.fill(sources, NONE);
            Arrays.fill(sourcesAgain, NONE);
            Arrays.fill(allFrom, 0);
            Arrays.fill(allFromAgain, 0);
            for (int module = 0; module < texts.moduleCount; module++) {
                // From behind, so that the first import under a name is the one that stays.
                for (int k = texts.importCounts[module] - 1; k >= 0; k--) {
                    settleImport(module, texts.importAt(module, k));
                }
            }
        }

        private void settleImport(int module, int brought) {
            boolean isAgain = Import.isAgain(brought);
            if (Import.isOfAll(brought)) {
                allFrom[module] |= 1 << Import.from(brought);
                allFromAgain[module] |= isAgain ? 1 << Import.from(brought) : 0;
                return;
            }
            int slot = module * NAMES + Import.under(brought);
            sources[slot] = Import.source(brought);
            if (isAgain) {
                sourcesAgain[slot] = sources[slot];
            }
        }

        /**
         * Beginning with nothing everywhere, a slot can only go on to a declaration and then to a
         * clash; where nothing goes on any more, what only comes back to itself is nothing yet.
         */
        private void settleOutside() {
            Arrays.fill(outside, NONE);
            boolean isMoving = true;
            for (int round = 0; round <= 2 * SLOTS && isMoving; round++) {
                isMoving = false;
                for (int slot = 0; slot < texts.moduleCount * NAMES; slot++) {
                    int found = lookedUp(slot);
                    if (found != outside[slot]) {
                        outside[slot] = found;
                        isMoving = true;
                    }
                }
            }
        }

        private int lookedUp(int slot) {
            if (texts.isDeclared(slot)) {
                return Declaration.isPublic(texts.declarations[slot]) ? slot : NONE;
            }
            return broughtTo(slot, sourcesAgain[slot], allFromAgain[slot / NAMES]);
        }

        /** What a name without a declaration is by imports: one of one name, or those of all. */
        private int broughtTo(int slot, int source, int froms) {
            if (source != NONE) {
                return outside[source];
            }
            int found = NONE;
            for (int from = 0; from < MODULES && froms != 0; from++) {
                if (Rings.has(froms, from)) {
                    found = joined(found, outside[from * NAMES + slot % NAMES]);
                }
            }
            return found;
        }

        private static int joined(int one, int other) {
            if (one == NONE) {
                return other;
            }
            return other == NONE || other == one ? one : CLASH;
        }

        private void wantReferences(int slot) {
            if (texts.isDeclared(slot)) {
                for (int side = 0; side < 2; side++) {
                    want(slot / NAMES, Declaration.reference(texts.declarations[slot], side));
                }
            }
        }

        private void want(int module, int name) {
            if (name == NONE || texts.isDeclared(module * NAMES + name)) {
                return;
            }
            int source = sources[module * NAMES + name];
            if (source != NONE) {
                wanted[module * MODULES + source / NAMES] |= 1 << source % NAMES;
                return;
            }
            for (int target = 0; target < MODULES; target++) {
                if (Rings.has(allFrom[module], target)) {
                    wanted[module * MODULES + target] |= 1 << name;
                }
            }
        }

        int wantedBy(int module) {
            int count = 0;
            for (int target = 0; target < MODULES; target++) {
                count += Integer.bitCount(wanted[module * MODULES + target]);
            }
            return count;
        }

        boolean isWanted(int module, int slot) {
            return (wanted[module * MODULES + slot / NAMES] >> slot % NAMES & 1) == 1;
        }
    }

    /** The rings, each told by the set of its modules, and their order. */
    private static final class Rings {
        private final Texts texts;
        final int[] leansOn = new int[MODULES];
        /** The modules on which a module leans, over however many. */
        final int[] reach = new int[MODULES];
        final int[] ringOf = new int[MODULES];
        final int[] placeOf = new int[MODULES];
        final int[] order = new int[MODULES];
        int count;

        Rings(Texts texts) {
            this.texts = texts;
        }

        static boolean has(int set, int module) {
            return (set >> module & 1) == 1;
        }

        /** The smallest module of a set; NONE for the empty one. */
        static int smallestOf(int set) {
            for (int module = 0; module < MODULES; module++) {
                if (has(set, module)) {
                    return module;
                }
            }
            return NONE;
        }

        void settle() {
            settleLeaning();
            for (int module = 0; module < texts.moduleCount; module++) {
                ringOf[module] = ringAround(module);
            }
            settleOrder();
        }

        private void settleLeaning() {
            for (int module = 0; module < texts.moduleCount; module++) {
                leansOn[module] = 0;
                for (int k = 0; k < texts.importCounts[module]; k++) {
                    int from = Import.from(texts.importAt(module, k));
                    if (from < texts.moduleCount) {
                        leansOn[module] |= 1 << from;
                    }
                }
                reach[module] = leansOn[module];
            }
            for (int over = 0; over < texts.moduleCount; over++) {
                for (int module = 0; module < texts.moduleCount; module++) {
                    if (has(reach[module], over)) {
                        reach[module] |= reach[over];
                    }
                }
            }
        }

        private int ringAround(int module) {
            int ring = 1 << module;
            for (int other = 0; other < texts.moduleCount; other++) {
                if (has(reach[module], other) && has(reach[other], module)) {
                    ring |= 1 << other;
                }
            }
            return ring;
        }

        private void settleOrder() {
            count = 0;
            int placed = 0;
            for (int place = 0; place < texts.moduleCount; place++) {
                int next = nextBehind(placed);
                if (next != NONE) {
                    order[count] = ringOf[next];
                    placeModules(ringOf[next], count);
                    placed |= ringOf[next];
                    count++;
                }
            }
        }

        private int nextBehind(int placed) {
            for (int module = 0; module < texts.moduleCount; module++) {
                int ring = ringOf[module];
                if (!has(placed, module) && (reach[module] & ~ring & ~placed) == 0) {
                    return module;
                }
            }
            return NONE;
        }

        private void placeModules(int ring, int place) {
            for (int module = 0; module < texts.moduleCount; module++) {
                if (has(ring, module)) {
                    placeOf[module] = place;
                }
            }
        }
    }

    /** What was noted as a ring was built, and the states of its declarations. */
    private static final class Result {
        static final long NOT_ASKED = -3;

        int modules;
        final Texts texts = new Texts();
        /** By slots, the answers to what was looked for. */
        final long[] noted = new long[SLOTS];
        /** By slots, the answers that the states give to others. */
        final long[] answers = new long[SLOTS];
        final int[] faults = new int[SLOTS];
        final boolean[] isProcedure = new boolean[SLOTS];
        /** Whether it is a constant without a fault, or small: that is, a number and no call. */
        final boolean[] isPlain = new boolean[SLOTS];
        final int[] numbers = new int[SLOTS];
        final int[] firstCalls = new int[SLOTS];
        final int[] secondCalls = new int[SLOTS];

        Result() {
            for (int slot = 0; slot < SLOTS; slot++) {
                setUnbuilt(slot);
            }
        }

        void begin(int ring, Texts now) {
            modules = ring;
            texts.copy(now);
            Arrays.fill(noted, NOT_ASKED);
            for (int slot = 0; slot < SLOTS; slot++) {
                setUnbuilt(slot);
            }
        }

        /** What was not built is like a constant with fault 1 and the number 0. */
        private void setUnbuilt(int slot) {
            answers[slot] = Answer.of(slot, true, true, false, 0);
            faults[slot] = 1;
            isProcedure[slot] = false;
            isPlain[slot] = false;
            numbers[slot] = 0;
            firstCalls[slot] = NONE;
            secondCalls[slot] = NONE;
        }

        int callCount(int slot) {
            return (firstCalls[slot] == NONE ? 0 : 1) + (secondCalls[slot] == NONE ? 0 : 1);
        }
    }

    /** The newest results, the oldest of them first. */
    private static final class Store {
        final Result[] kept;
        int count;

        Store(int most) {
            kept = new Result[most];
        }

        boolean holds(Result result) {
            for (int k = 0; k < count; k++) {
                if (kept[k] == result) {
                    return true;
                }
            }
            return false;
        }

        void put(Result result) {
            if (kept.length == 0) {
                return;
            }
            if (count == kept.length) {
                takeOut(0);
            }
            kept[count] = result;
            count++;
        }

        void makeNewest(int place) {
            Result result = kept[place];
            takeOut(place);
            put(result);
        }

        private void takeOut(int place) {
            count--;
            for (int k = place; k < count; k++) {
                kept[k] = kept[k + 1];
            }
        }
    }

    /** With which result each module was built last; which rings are stale by that, and their renewal. */
    private static final class Works {
        static final int NEVER_BUILT = 1;
        static final int OTHER_RING = 2;
        static final int OTHER_TEXT = 3;
        static final int OTHER_ANSWER = 4;

        final Texts texts;
        private final Names names;
        private final Rings rings;
        private final Maker maker;
        final Store store;
        private final Result[] last = new Result[MODULES];
        /** Without modules and declarations; the last one of a module that was never built. */
        private final Result unbuilt;
        /** One more than can be held at once, by the store and as the last ones of the modules. */
        private final Result[] pool;

        Works(Texts texts, Names names, Rings rings, int mostKept) {
            this.texts = texts;
            this.names = names;
            this.rings = rings;
            store = new Store(mostKept);
            unbuilt = new Result();
            for (int module = 0; module < MODULES; module++) {
                last[module] = unbuilt;
            }
            pool = new Result[mostKept + MODULES + 1];
            for (int k = 0; k < pool.length; k++) {
                pool[k] = new Result();
            }
            maker = new Maker(names);
        }

        void startFrom(Works other) {
            texts.copy(other.texts);
            for (int module = 0; module < MODULES; module++) {
                last[module] = other.last[module];
            }
        }

        /** The result with the state of this declaration, if it was built at all. */
        Result stateOf(int slot) {
            return last[slot / NAMES];
        }

        boolean isFaulty(int slot) {
            Result state = stateOf(slot);
            return state.texts.isDeclared(slot) && state.faults[slot] != 0;
        }

        int faultCount() {
            int count = 0;
            for (int slot = 0; slot < SLOTS; slot++) {
                if (isFaulty(slot)) {
                    count++;
                }
            }
            return count;
        }

        int staleCount() {
            int count = 0;
            for (int place = 0; place < rings.count; place++) {
                if (reasonOf(rings.order[place]) != 0) {
                    count++;
                }
            }
            return count;
        }

        /** The first reason for which a ring is stale; 0 if it is not. */
        int reasonOf(int ring) {
            if (firstUnbuilt(ring) != NONE) {
                return NEVER_BUILT;
            }
            if (wasInOtherRing(ring)) {
                return OTHER_RING;
            }
            // Built last in this ring, its modules were built last with one and the same result.
            Result result = resultOf(ring);
            if (firstOtherText(result) != NONE) {
                return OTHER_TEXT;
            }
            return firstOtherAnswer(result) != NONE ? OTHER_ANSWER : 0;
        }

        int culpritOf(int ring, int reason) {
            switch (reason) {
                case NEVER_BUILT: return firstUnbuilt(ring);
                case OTHER_TEXT: return firstOtherText(resultOf(ring));
                case OTHER_RING:
                case OTHER_ANSWER: return Rings.smallestOf(ring);
                default: return NONE;
            }
        }

        private int firstUnbuilt(int ring) {
            for (int module = 0; module < MODULES; module++) {
                if (Rings.has(ring, module) && last[module].modules == 0) {
                    return module;
                }
            }
            return NONE;
        }

        private boolean wasInOtherRing(int ring) {
            for (int module = 0; module < MODULES; module++) {
                if (Rings.has(ring, module) && last[module].modules != ring) {
                    return true;
                }
            }
            return false;
        }

        /** The smallest module of a result that has another text now, or NONE. */
        private int firstOtherText(Result result) {
            for (int module = 0; module < MODULES; module++) {
                if (Rings.has(result.modules, module) && !texts.isSame(result.texts, module)) {
                    return module;
                }
            }
            return NONE;
        }

        /** With which result the module that stands for a ring was built last. */
        Result resultOf(int ring) {
            int stand = Rings.smallestOf(ring);
            return stand == NONE ? unbuilt : last[stand];
        }

        /** The smallest slot that was looked for and has another answer now, or NONE. */
        int firstOtherAnswer(Result result) {
            for (int slot = 0; slot < SLOTS; slot++) {
                if (result.noted[slot] != Result.NOT_ASKED
                        && result.noted[slot] != answerTo(slot, result.modules)) {
                    return slot;
                }
            }
            return NONE;
        }

        /** What a ring gets to know as it looks for a slot: of a declaration of its own just which one. */
        private long answerTo(int slot, int ring) {
            int found = names.outside[slot];
            if (found < 0 || Rings.has(ring, found / NAMES)) {
                return found;
            }
            return last[found / NAMES].answers[found];
        }

        int renewAll() {
            int renewed = 0;
            for (int place = 0; place < rings.count; place++) {
                if (reasonOf(rings.order[place]) != 0) {
                    renew(rings.order[place]);
                    renewed++;
                }
            }
            return renewed;
        }

        /** Renews those that can be renewed at once, and tells how many these were. */
        int renewRound(int workers) {
            int stale = staleModules();
            int renewed = 0;
            for (int place = 0; place < rings.count && renewed < workers; place++) {
                int ring = rings.order[place];
                int stand = Rings.smallestOf(ring);
                if (Rings.has(stale, stand) && (rings.reach[stand] & ~ring & stale) == 0) {
                    renew(ring);
                    renewed++;
                }
            }
            return renewed;
        }

        private int staleModules() {
            int stale = 0;
            for (int place = 0; place < rings.count; place++) {
                if (reasonOf(rings.order[place]) != 0) {
                    stale |= rings.order[place];
                }
            }
            return stale;
        }

        /** Fetches or builds a ring, and tells whether it was fetched. */
        boolean renew(int ring) {
            int place = placeInStore(ring);
            boolean isFetched = place != NONE;
            Result result;
            if (isFetched) {
                result = store.kept[place];
                store.makeNewest(place);
            } else {
                result = freeResult();
                result.begin(ring, texts);
                noteAnswers(result);
                maker.makeStates(result, last);
                store.put(result);
            }
            for (int module = 0; module < MODULES; module++) {
                if (Rings.has(ring, module)) {
                    last[module] = result;
                }
            }
            return isFetched;
        }

        private int placeInStore(int ring) {
            for (int k = store.count - 1; k >= 0; k--) {
                Result result = store.kept[k];
                if (result.modules == ring && firstOtherText(result) == NONE
                        && firstOtherAnswer(result) == NONE) {
                    return k;
                }
            }
            return NONE;
        }

        private Result freeResult() {
            Result free = pool[0];
            for (int k = 1; k < pool.length && isHeld(free); k++) {
                free = pool[k];
            }
            return free;
        }

        private boolean isHeld(Result result) {
            for (int module = 0; module < MODULES; module++) {
                if (last[module] == result) {
                    return true;
                }
            }
            return store.holds(result);
        }

        private void noteAnswers(Result result) {
            for (int module = 0; module < MODULES; module++) {
                for (int slot = 0; slot < SLOTS && Rings.has(result.modules, module); slot++) {
                    if (names.isWanted(module, slot)) {
                        result.noted[slot] = answerTo(slot, result.modules);
                    }
                }
            }
        }
    }

    /** Makes the states of the declarations of a ring, all of them together. */
    private static final class Maker {
        /** What stands for the slot of a reference that is not there. */
        private static final int NO_REFERENCE = -3;
        private static final int UNBOUND_FAULT = 1;
        private static final int CLASH_FAULT = 2;
        private static final int KIND_FAULT = 3;
        private static final int CYCLE_FAULT = 4;
        private static final int LED_FAULT = 5;

        private final Names names;
        /** By modules, the results in which their states stand, that of the ring itself, too. */
        private final Result[] states = new Result[MODULES];
        private final int[] members = new int[SLOTS];
        private int memberCount;
        /** At slot * 2 and behind: what p and q of the declaration are. */
        private final int[] targets = new int[2 * SLOTS];
        /** Whether it is a constant of the ring without a fault of 1 to 3. */
        private final boolean[] isLink = new boolean[SLOTS];
        private final int[] walk = new int[SLOTS];
        private final boolean[] isWalked = new boolean[SLOTS];

        Maker(Names names) {
            this.names = names;
        }

        /** Of a result with its ring and texts; the others have the states of the last ones. */
        void makeStates(Result result, Result[] last) {
            for (int module = 0; module < MODULES; module++) {
                states[module] = Rings.has(result.modules, module) ? result : last[module];
            }
            findMembers(result);
            findDirectFaults(result);
            for (int k = 0; k < memberCount; k++) {
                if (isLink[members[k]] && comesBack(members[k])) {
                    result.faults[members[k]] = CYCLE_FAULT;
                }
            }
            spreadFaults(result);
            findPlain(result);
            findCalls(result);
            tellAnswers(result);
        }

        private void findMembers(Result result) {
            memberCount = 0;
            for (int slot = 0; slot < SLOTS; slot++) {
                if (Rings.has(result.modules, slot / NAMES) && result.texts.isDeclared(slot)) {
                    members[memberCount] = slot;
                    memberCount++;
                    int declaration = result.texts.declarations[slot];
                    result.isProcedure[slot] = Declaration.isProcedure(declaration);
                    targets[2 * slot] = targetOf(slot, Declaration.reference(declaration, 0));
                    targets[2 * slot + 1] = targetOf(slot, Declaration.reference(declaration, 1));
                }
            }
        }

        private int targetOf(int slot, int name) {
            return name == NONE ? NO_REFERENCE : names.within[slot / NAMES * NAMES + name];
        }

        private void findDirectFaults(Result result) {
            clear(isLink);
            for (int k = 0; k < memberCount; k++) {
                int slot = members[k];
                boolean isConstant = !result.isProcedure[slot];
                int ofP = directFault(targets[2 * slot], isConstant);
                int fault = ofP != 0 ? ofP : directFault(targets[2 * slot + 1], isConstant);
                result.faults[slot] = fault;
                isLink[slot] = isConstant && fault == 0;
            }
        }

        private int directFault(int target, boolean isConstant) {
            if (target == NONE) {
                return UNBOUND_FAULT;
            }
            if (target == CLASH) {
                return CLASH_FAULT;
            }
            return isConstant && target >= 0 && states[target / NAMES].isProcedure[target]
                    ? KIND_FAULT : 0;
        }

        private boolean comesBack(int start) {
            clear(isWalked);
            walk[0] = start;
            int end = 1;
            for (int at = 0; at < end && at < SLOTS; at++) {
                for (int side = 0; side < 2; side++) {
                    int target = targets[2 * walk[at] + side];
                    if (target == start) {
                        return true;
                    }
                    if (target >= 0 && isLink[target] && !isWalked[target] && end < SLOTS) {
                        isWalked[target] = true;
                        walk[end] = target;
                        end++;
                    }
                }
            }
            return false;
        }

        private void spreadFaults(Result result) {
            boolean isMoving = true;
            for (int round = 0; round <= SLOTS && isMoving; round++) {
                isMoving = false;
                for (int k = 0; k < memberCount; k++) {
                    int slot = members[k];
                    if (result.faults[slot] == 0
                            && (isFaulty(targets[2 * slot]) || isFaulty(targets[2 * slot + 1]))) {
                        result.faults[slot] = LED_FAULT;
                        isMoving = true;
                    }
                }
            }
        }

        private boolean isFaulty(int target) {
            return target >= 0 && states[target / NAMES].faults[target] != 0;
        }

        /** What comes back to itself never gets plain: nothing of it is plain before the rest. */
        private void findPlain(Result result) {
            boolean isMoving = true;
            for (int round = 0; round <= SLOTS && isMoving; round++) {
                isMoving = false;
                for (int k = 0; k < memberCount; k++) {
                    int slot = members[k];
                    if (result.faults[slot] == 0 && !result.isPlain[slot]
                            && isNoCall(targets[2 * slot]) && isNoCall(targets[2 * slot + 1])) {
                        result.isPlain[slot] = true;
                        result.numbers[slot] = numberWithTargets(result, slot);
                        isMoving = true;
                    }
                }
            }
        }

        private boolean isNoCall(int target) {
            return target < 0 || states[target / NAMES].isPlain[target];
        }

        private int numberWithTargets(Result result, int slot) {
            int number = Declaration.numberOf(result.texts.declarations[slot]);
            for (int side = 0; side < 2; side++) {
                int target = targets[2 * slot + side];
                if (target >= 0 && isNoCall(target)) {
                    number += states[target / NAMES].numbers[target];
                }
            }
            return number;
        }

        private void findCalls(Result result) {
            for (int k = 0; k < memberCount; k++) {
                int slot = members[k];
                if (result.faults[slot] == 0 && !result.isPlain[slot]) {
                    result.numbers[slot] = numberWithTargets(result, slot);
                    addCall(result, slot, targets[2 * slot]);
                    addCall(result, slot, targets[2 * slot + 1]);
                }
            }
        }

        private void addCall(Result result, int slot, int target) {
            if (isNoCall(target)) {
                return;
            }
            if (result.firstCalls[slot] == NONE) {
                result.firstCalls[slot] = target;
            } else {
                result.secondCalls[slot] = target;
            }
        }

        private void tellAnswers(Result result) {
            for (int k = 0; k < memberCount; k++) {
                int slot = members[k];
                boolean isPlain = result.isPlain[slot];
                result.answers[slot] = Answer.of(slot, !result.isProcedure[slot],
                        result.faults[slot] != 0, isPlain && result.isProcedure[slot],
                        isPlain ? result.numbers[slot] : 0);
            }
        }
    }
}
