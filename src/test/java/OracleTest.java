import java.util.ArrayList;
import java.util.Arrays;
import java.util.HashMap;
import java.util.HashSet;
import java.util.List;
import java.util.Map;
import java.util.Random;
import java.util.Set;
import java.util.TreeMap;
import java.util.TreeSet;

/**
 * Compares CutoffMill, over runs of calls drawn from fixed seeds, with a model that does what the
 * document says as literally as it can: names by paths, every question worked out from nothing,
 * what would be by a copy of all with its store.
 */
public final class OracleTest {
    private static final int RUNS = 300;
    /** With a digest behind each 16 of them, there are 510 calls of an object. */
    private static final int CALLS = 480;

    public static void main(String[] args) {
        int first = args.length > 0 ? Integer.parseInt(args[0]) : 1;
        int runs = args.length > 1 ? Integer.parseInt(args[1]) : RUNS;
        Seen seen = new Seen();
        for (int seed = first; seed < first + runs; seed++) {
            String wrong = new Run(seed, seen).play();
            if (wrong != null) {
                System.out.println("seed " + seed + ":\n" + wrong);
                System.exit(1);
            }
        }
        if (args.length == 0 && !seen.isAll()) {
            System.out.println("the runs no longer come to all that is to be seen: " + seen);
            System.exit(1);
        }
        System.out.println("all answers are those of the model; seen: " + seen);
    }

    /** What the runs came to at all; a run that meets nothing proves nothing. */
    static final class Seen {
        final int[] faults = new int[6];
        final int[] reasons = new int[5];
        int fetched, evicted, longRuns, rings, asNew, notAsNew, pulledBack;

        boolean isAll() {
            for (int k = 1; k <= 5; k++) if (faults[k] == 0) return false;
            for (int k = 0; k <= 4; k++) if (reasons[k] == 0) return false;
            return fetched > 0 && evicted > 0 && longRuns > 0 && rings > 0 && asNew > 0 && notAsNew > 0
                && pulledBack > 0;
        }

        @Override public String toString() {
            return "faults " + Arrays.toString(faults) + " reasons " + Arrays.toString(reasons) + " fetched " + fetched
                + " evicted " + evicted + " runs with calls " + longRuns + " rings of several " + rings + " as new " + asNew
                + " not as new " + notAsNew + " stale ones that a build leaves alone " + pulledBack;
        }
    }

    /** One run of calls on one object and one model. */
    static final class Run {
        final Random random;
        final Seen seen;
        final CutoffMill mill = new CutoffMill();
        Model model = new Model();
        final int nameCount;
        final int moduleGoal;
        final int style;
        final StringBuilder log = new StringBuilder();
        final List<int[]> undo = new ArrayList<>();

        Run(int seed, Seen seen) {
            random = new Random(seed * 7919L);
            this.seen = seen;
            nameCount = new int[] {3, 4, 6, 8, 16}[random.nextInt(5)];
            moduleGoal = 1 + random.nextInt(8);
            style = random.nextInt(6);
        }

        /** Modules that lean on lower ones, of which the lower ones are changed, and that are built ring by ring. */
        boolean isLayered() {
            return style >= 4;
        }

        String play() {
            for (int call = 0; call < CALLS; call++) {
                String wrong = call < moduleGoal && style != 3 ? compare("module", 0)
                    : random.nextInt(100) < 55 ? edit() : random.nextInt(100) < 45 ? build() : ask();
                if (wrong != null) return log + wrong;
                if (call % 16 == 15 || call == CALLS - 1) {
                    wrong = compare("digest");
                    if (wrong != null) return log + wrong;
                    look();
                }
            }
            return null;
        }

        /** As often the whole as one or two rings of it; ring by ring in layers. */
        String build() {
            if (isLayered()) return compare("build", random.nextInt(5) == 0 ? 8 : 1);
            return compare("build", random.nextBoolean() ? 8 : 1 + random.nextInt(2));
        }

        int module() {
            return random.nextInt(60) == 0 ? random.nextInt(12) - 2 : random.nextInt(Math.max(1, model.modules.size()));
        }

        int name() {
            return random.nextInt(80) == 0 ? random.nextInt(20) - 2 : random.nextInt(nameCount);
        }

        /** Mostly a name that is something within the module, so that not all ends in faults. */
        int reference(int module, int self, int kind) {
            if (random.nextInt(4) == 0) return -1;
            if (module < 0 || module >= model.modules.size() || random.nextInt(12) == 0) return name();
            List<Integer> sound = new ArrayList<>();
            for (int n = 0; n < nameCount; n++) {
                Place place = model.lookWithin(module, n);
                if (place.module < 0 || n == self && random.nextInt(6) != 0) continue;
                Declaration d = model.modules.get(place.module).declarations.get(place.name);
                if (kind == 1 || d.kind == 0) sound.add(n);
            }
            return sound.isEmpty() ? -1 : sound.get(random.nextInt(sound.size()));
        }

        String edit() {
            int dice = random.nextInt(100);
            if (!undo.isEmpty() && random.nextInt(4) == 0) {
                int[] old = undo.remove(undo.size() - 1);
                return compare("declare", old);
            }
            if (dice < 2) return compare("module");
            if (isLayered() && random.nextInt(3) > 0 && !model.modules.isEmpty()) return change();
            if (dice < 62) {
                int module = module();
                int name = name();
                remember(module, name);
                int bound = random.nextInt(40) == 0 ? 120 : random.nextInt(3) == 0 ? 99 : 2;
                int kind = random.nextInt(60) == 0 ? 2 : random.nextInt(style == 1 ? 5 : 2) == 0 ? 0 : 1;
                return compare("declare", module, name, kind, random.nextInt(8) == 0 ? 0 : 1,
                    random.nextInt(2 * bound + 1) - bound, reference(module, name, kind), reference(module, name, kind));
            }
            if (dice < 68) {
                int module = module();
                int name = name();
                remember(module, name);
                return compare("drop", module, name);
            }
            if (dice < 90) {
                int module = module();
                int from = random.nextInt(60) == 0 ? random.nextInt(12) - 2
                    : (style < 2 || isLayered()) && module > 0 ? random.nextInt(module) : random.nextInt(Math.max(2, moduleGoal));
                boolean isAll = isLayered() || random.nextInt(3) == 0;
                int name = isAll ? -1 : name();
                int under = isAll ? (random.nextInt(40) == 0 ? 1 : 0) : random.nextBoolean() ? name : name();
                return compare("bring", module, from, name, under, random.nextInt(3) == 0 ? 0 : 1);
            }
            return compare("leave", module(), random.nextInt(7) - 1 + (random.nextInt(3) == 0 ? 0 : -random.nextInt(2)));
        }

        /** Changes one part of a declaration of a lower module. */
        String change() {
            int module = random.nextInt((model.modules.size() + 1) / 2);
            List<Integer> names = new ArrayList<>(model.modules.get(module).declarations.keySet());
            int name = names.isEmpty() ? name() : names.get(random.nextInt(names.size()));
            Declaration d = model.modules.get(module).declarations.getOrDefault(name, new Declaration(1, true, 1, -1, -1));
            switch (random.nextInt(4)) {
                case 0: return compare("declare", module, name, d.kind, 1, random.nextInt(3), d.p, d.q);
                case 1: return compare("declare", module, name, 1 - d.kind, 1, d.number, -1, d.q);
                case 2: return compare("declare", module, name, 1, 1, d.number, d.p, reference(module, name, 1));
                default: return compare("declare", module, name, 1, 1, d.number, d.p == name ? -1 : name, d.q);
            }
        }

        void remember(int module, int name) {
            if (module < 0 || module >= model.modules.size()) return;
            Declaration d = model.modules.get(module).declarations.get(name);
            if (d != null) undo.add(new int[] {module, name, d.kind, d.isPublic ? 1 : 0, d.number, d.p, d.q});
        }

        String ask() {
            switch (random.nextInt(12)) {
                case 0: return compare("ofModule", module(), random.nextInt(11) - 1);
                case 1: return compare("within", module(), name(), random.nextInt(4) - 1);
                case 2: return compare("outside", module(), name(), random.nextInt(8) - 1);
                case 3: return compare("why", module(), random.nextInt(6) - 1);
                case 4: return compare("built", module(), name(), random.nextInt(8) - 1);
                case 5: return compare("fault", random.nextInt(8) - 1, random.nextInt(5) - 1);
                case 6: return compare("run", module(), name());
                case 7: return compare("many", random.nextInt(12) - 1);
                case 8: return compare("fetchedPart");
                case 9: return random.nextBoolean() ? compare("wouldBuild") : compare("isAsNew");
                case 10: return compare("builtBy", module(), name(), random.nextInt(205) - 102);
                default: return compare("rounds", random.nextInt(6));
            }
        }

        void look() {
            for (int k = 0; k < model.modules.size(); k++) {
                seen.reasons[model.why(k, 0)]++;
                for (int n = 0; n < 16; n++) {
                    int f = model.built(k, n, 0);
                    if (f > 0) seen.faults[f]++;
                    if (model.built(k, n, 3) > 0 && model.run(k, n) != -1000000) seen.longRuns++;
                }
            }
            for (Set<Integer> ring : model.rings()) if (ring.size() > 1) seen.rings++;
            seen.fetched += model.ringsFetched;
            if (model.ringsBuilt > 10) seen.evicted++;
            if (model.isAsNew()) seen.asNew++; else seen.notAsNew++;
            if (model.wouldBuild() < model.many(4)) seen.pulledBack++;
        }

        String compare(String call, int... a) {
            String got = answer(call, a, true);
            String due = answer(call, a, false);
            log.append(call).append(Arrays.toString(a)).append(" -> ").append(due).append('\n');
            return got.equals(due) ? null : "WRONG: " + call + Arrays.toString(a) + " answered " + got + ", due is " + due;
        }

        String answer(String call, int[] a, boolean isMill) {
            try {
                return isMill ? ofMill(call, a) : ofModel(call, a);
            } catch (IndexOutOfBoundsException | IllegalArgumentException | IllegalStateException e) {
                return e.getClass().getName();
            }
        }

        String ofMill(String call, int[] a) {
            switch (call) {
                case "module": return "" + mill.module();
                case "declare": return "" + mill.declare(a[0], a[1], a[2], a[3] == 1, a[4], a[5], a[6]);
                case "drop": return "" + mill.drop(a[0], a[1]);
                case "bring": return "" + mill.bring(a[0], a[1], a[2], a[3], a[4] == 1);
                case "leave": return "" + mill.leave(a[0], a[1]);
                case "ofModule": return "" + mill.ofModule(a[0], a[1]);
                case "within": return "" + mill.within(a[0], a[1], a[2]);
                case "outside": return "" + mill.outside(a[0], a[1], a[2]);
                case "build": return "" + mill.build(a[0]);
                case "why": return "" + mill.why(a[0], a[1]);
                case "built": return "" + mill.built(a[0], a[1], a[2]);
                case "fault": return "" + mill.fault(a[0], a[1]);
                case "run": return "" + mill.run(a[0], a[1]);
                case "many": return "" + mill.many(a[0]);
                case "fetchedPart": return "" + mill.fetchedPart();
                case "wouldBuild": return "" + mill.wouldBuild();
                case "builtBy": return "" + mill.builtBy(a[0], a[1], a[2]);
                case "rounds": return "" + mill.rounds(a[0]);
                case "isAsNew": return "" + mill.isAsNew();
                default: return "" + mill.digest();
            }
        }

        String ofModel(String call, int[] a) {
            switch (call) {
                case "module": return "" + model.module();
                case "declare": return "" + model.declare(a[0], a[1], a[2], a[3] == 1, a[4], a[5], a[6]);
                case "drop": return "" + model.drop(a[0], a[1]);
                case "bring": return "" + model.bring(a[0], a[1], a[2], a[3], a[4] == 1);
                case "leave": return "" + model.leave(a[0], a[1]);
                case "ofModule": return "" + model.ofModule(a[0], a[1]);
                case "within": return "" + model.within(a[0], a[1], a[2]);
                case "outside": return "" + model.outside(a[0], a[1], a[2]);
                case "build": return "" + model.build(a[0]);
                case "why": return "" + model.why(a[0], a[1]);
                case "built": return "" + model.built(a[0], a[1], a[2]);
                case "fault": return "" + model.fault(a[0], a[1]);
                case "run": return "" + model.run(a[0], a[1]);
                case "many": return "" + model.many(a[0]);
                case "fetchedPart": return "" + model.fetchedPart();
                case "wouldBuild": return "" + model.wouldBuild();
                case "builtBy": return "" + model.builtBy(a[0], a[1], a[2]);
                case "rounds": return "" + model.rounds(a[0]);
                case "isAsNew": return "" + model.isAsNew();
                default: return "" + model.digest();
            }
        }
    }

    record Declaration(int kind, boolean isPublic, int number, int p, int q) { }

    record Import(int from, int name, int under, boolean isAgain) { }

    /** A declaration by its module and name; NOTHING and CLASH stand beside these. */
    record Place(int module, int name) { }

    static final Place NOTHING = new Place(-1, -1);
    static final Place CLASH = new Place(-2, -2);

    record State(int kind, int fault, boolean isSmall, int number, List<Place> calls) { }

    static final State UNBUILT = new State(0, 1, false, 0, List.of());

    static final class Module {
        final TreeMap<Integer, Declaration> declarations = new TreeMap<>();
        final List<Import> imports = new ArrayList<>();
        int builtTimes, fetchedTimes;

        String text() {
            return declarations + " " + imports;
        }
    }

    /** A result: what was noted as a ring was built, and its states. */
    static final class Result {
        final Set<Integer> ring = new TreeSet<>();
        final Map<Integer, String> texts = new TreeMap<>();
        final Map<Integer, String> answers = new TreeMap<>();
        final Map<Place, State> states = new HashMap<>();
    }

    static final class Model {
        final List<Module> modules = new ArrayList<>();
        final Map<Integer, Result> last = new HashMap<>();
        final List<Result> store = new ArrayList<>();
        int ringsBuilt, ringsFetched, builds;
        private final Map<Place, Place> outsides = new HashMap<>();
        private List<Set<Integer>> order;

        Model copy() {
            Model copy = new Model();
            for (Module m : modules) {
                Module c = new Module();
                c.declarations.putAll(m.declarations);
                c.imports.addAll(m.imports);
                copy.modules.add(c);
            }
            copy.last.putAll(last);
            copy.store.addAll(store);
            return copy;
        }

        void edited() {
            outsides.clear();
            order = null;
        }

        void need(boolean isMet) {
            if (!isMet) throw new IllegalArgumentException();
        }

        Module at(int module) {
            if (module < 0 || module >= modules.size()) throw new IndexOutOfBoundsException();
            return modules.get(module);
        }

        boolean isName(int name) {
            return name >= 0 && name <= 15;
        }

        int module() {
            if (modules.size() == 8) throw new IllegalStateException();
            modules.add(new Module());
            edited();
            return modules.size() - 1;
        }

        int declare(int module, int name, int kind, boolean isPublic, int number, int p, int q) {
            Module m = at(module);
            need(isName(name) && (kind == 0 || kind == 1) && number >= -99 && number <= 99
                && (p == -1 || isName(p)) && (q == -1 || isName(q)));
            Set<Integer> others = new HashSet<>(m.declarations.keySet());
            others.remove(name);
            if (others.size() == 6) throw new IllegalStateException();
            m.declarations.put(name, new Declaration(kind, isPublic, number, p, q));
            edited();
            return m.declarations.size();
        }

        boolean drop(int module, int name) {
            Module m = at(module);
            need(isName(name));
            edited();
            return m.declarations.remove(name) != null;
        }

        int bring(int module, int from, int name, int under, boolean isAgain) {
            Module m = at(module);
            need(from >= 0 && from <= 7 && from != module && (name == -1 || isName(name)) && isName(under)
                && (name != -1 || under == 0));
            if (m.imports.size() == 5) throw new IllegalStateException();
            m.imports.add(new Import(from, name, under, isAgain));
            edited();
            return m.imports.size() - 1;
        }

        int leave(int module, int k) {
            Module m = at(module);
            if (k < 0 || k >= m.imports.size()) throw new IndexOutOfBoundsException();
            m.imports.remove(k);
            edited();
            return m.imports.size();
        }

        // names

        Place lookOutside(int module, int name) {
            Place asked = new Place(module, name);
            Place known = outsides.get(asked);
            if (known == null) {
                known = look(module, name, new HashSet<>());
                outsides.put(asked, known);
            }
            return known;
        }

        Place look(int module, int name, Set<Place> path) {
            Place here = new Place(module, name);
            if (module >= modules.size() || path.contains(here)) return NOTHING;
            Module m = modules.get(module);
            Declaration own = m.declarations.get(name);
            if (own != null) return own.isPublic ? here : NOTHING;
            path.add(here);
            Place found = null;
            for (Import i : m.imports) {
                if (found == null && i.name != -1 && i.under == name && i.isAgain) found = look(i.from, i.name, path);
            }
            if (found == null) {
                Set<Place> all = new HashSet<>();
                for (Import i : m.imports) if (i.name == -1 && i.isAgain) all.add(look(i.from, name, path));
                found = together(all);
            }
            path.remove(here);
            return found;
        }

        Place together(Set<Place> all) {
            all.remove(NOTHING);
            return all.isEmpty() ? NOTHING : all.size() == 1 ? all.iterator().next() : CLASH;
        }

        Place lookWithin(int module, int name) {
            Module m = modules.get(module);
            if (m.declarations.containsKey(name)) return new Place(module, name);
            for (Import i : m.imports) if (i.name != -1 && i.under == name) return lookOutside(i.from, i.name);
            Set<Place> all = new HashSet<>();
            for (Import i : m.imports) if (i.name == -1) all.add(lookOutside(i.from, name));
            return together(all);
        }

        /** As module * 16 + name. */
        Set<Integer> looksFor(int module) {
            Module m = modules.get(module);
            Set<Integer> looked = new TreeSet<>();
            for (Declaration d : m.declarations.values()) {
                for (int name : new int[] {d.p, d.q}) {
                    if (name == -1 || m.declarations.containsKey(name)) continue;
                    Import one = null;
                    for (Import i : m.imports) if (one == null && i.name != -1 && i.under == name) one = i;
                    if (one != null) looked.add(one.from * 16 + one.name);
                    else for (Import i : m.imports) if (i.name == -1) looked.add(i.from * 16 + name);
                }
            }
            return looked;
        }

        // rings

        Set<Integer> leansOn(int module) {
            Set<Integer> leans = new TreeSet<>();
            for (Import i : modules.get(module).imports) if (i.from < modules.size()) leans.add(i.from);
            return leans;
        }

        Set<Integer> leansFar(int module) {
            Set<Integer> far = new TreeSet<>(leansOn(module));
            List<Integer> open = new ArrayList<>(far);
            while (!open.isEmpty()) {
                for (int next : leansOn(open.remove(0))) if (far.add(next)) open.add(next);
            }
            return far;
        }

        Set<Integer> ringOf(int module) {
            Set<Integer> ring = new TreeSet<>(Set.of(module));
            for (int other : leansFar(module)) if (leansFar(other).contains(module)) ring.add(other);
            return ring;
        }

        int stand(Set<Integer> ring) {
            return ring.iterator().next();
        }

        /** All rings in their order. */
        List<Set<Integer>> rings() {
            if (order != null) return order;
            Set<Set<Integer>> left = new HashSet<>();
            for (int module = 0; module < modules.size(); module++) left.add(ringOf(module));
            List<Set<Integer>> sorted = new ArrayList<>();
            Set<Integer> behind = new HashSet<>();
            while (!left.isEmpty()) {
                Set<Integer> next = null;
                for (Set<Integer> ring : left) {
                    boolean isFree = true;
                    for (int m : ring) for (int on : leansOn(m)) isFree &= ring.contains(on) || behind.contains(on);
                    if (isFree && (next == null || stand(ring) < stand(next))) next = ring;
                }
                left.remove(next);
                sorted.add(next);
                behind.addAll(next);
            }
            order = sorted;
            return sorted;
        }

        // states

        State lastState(Place place) {
            Result built = last.get(place.module);
            State state = built == null ? null : built.states.get(place);
            return state == null ? UNBUILT : state;
        }

        String answer(int asked, Set<Integer> ring) {
            Place found = lookOutside(asked / 16, asked % 16);
            if (found.equals(NOTHING)) return "nothing";
            if (found.equals(CLASH)) return "CLASH";
            if (ring.contains(found.module)) return "own " + found;
            State s = lastState(found);
            return found + (s.kind == 0 ? " constant" : " procedure") + (s.fault != 0 ? " fault" : "") + (s.isSmall ? " small" : "")
                + (s.kind == 0 || s.isSmall ? " " + s.number : "");
        }

        Result make(Set<Integer> ring) {
            Result made = new Result();
            made.ring.addAll(ring);
            for (int m : ring) {
                made.texts.put(m, modules.get(m).text());
                for (int asked : looksFor(m)) made.answers.put(asked, answer(asked, ring));
            }
            new States(ring, made.states).make();
            return made;
        }

        /** The states of a ring, each worked out by itself. */
        final class States {
            final Set<Integer> ring;
            final Map<Place, State> made;
            final Map<Place, Integer> faults = new HashMap<>();

            States(Set<Integer> ring, Map<Place, State> made) {
                this.ring = ring;
                this.made = made;
            }

            void make() {
                List<Place> all = new ArrayList<>();
                for (int m : ring) for (int n : modules.get(m).declarations.keySet()) all.add(new Place(m, n));
                for (Place d : all) faults.put(d, fault(d));
                for (Place d : all) {
                    boolean isSound = faults.get(d) == 0;
                    made.put(d, new State(of(d).kind, faults.get(d), isSmall(d, new HashSet<>()), isSound ? number(d) : 0, calls(d)));
                }
            }

            Declaration of(Place d) {
                return modules.get(d.module).declarations.get(d.name);
            }

            boolean isOwn(Place d) {
                return ring.contains(d.module);
            }

            List<Place> references(Place d) {
                List<Place> there = new ArrayList<>();
                for (int name : new int[] {of(d).p, of(d).q}) if (name != -1) there.add(lookWithin(d.module, name));
                return there;
            }

            int kind(Place d) {
                return isOwn(d) ? of(d).kind : lastState(d).kind;
            }

            int direct(Place d) {
                for (Place to : references(d)) {
                    if (to.equals(NOTHING)) return 1;
                    if (to.equals(CLASH)) return 2;
                    if (of(d).kind == 0 && kind(to) == 1) return 3;
                }
                return 0;
            }

            int fault(Place d) {
                if (direct(d) != 0) return direct(d);
                if (of(d).kind == 0 && comesTo(d, d, new HashSet<>())) return 4;
                return leadsToFault(d, new HashSet<>()) ? 5 : 0;
            }

            boolean comesTo(Place from, Place goal, Set<Place> been) {
                if (!isOwn(from) || of(from).kind != 0 || direct(from) != 0 || !been.add(from)) return false;
                for (Place to : references(from)) if (to.equals(goal) || comesTo(to, goal, been)) return true;
                return false;
            }

            boolean leadsToFault(Place d, Set<Place> been) {
                if (!isOwn(d)) return lastState(d).fault != 0;
                if (!been.add(d)) return false;
                if (direct(d) != 0 || of(d).kind == 0 && comesTo(d, d, new HashSet<>())) return true;
                for (Place to : references(d)) if (leadsToFault(to, been)) return true;
                return false;
            }

            boolean isSmall(Place d, Set<Place> path) {
                if (!isOwn(d)) return lastState(d).isSmall;
                if (of(d).kind == 0 || faults.get(d) != 0 || !path.add(d)) return false;
                boolean isSmall = true;
                for (Place to : references(d)) isSmall &= kind(to) == 0 || isSmall(to, path);
                path.remove(d);
                return isSmall;
            }

            int number(Place d) {
                if (!isOwn(d)) return lastState(d).number;
                int sum = of(d).number;
                for (Place to : references(d)) if (kind(to) == 0 || isSmall(to, new HashSet<>())) sum += number(to);
                return sum;
            }

            List<Place> calls(Place d) {
                List<Place> calls = new ArrayList<>();
                if (faults.get(d) != 0) return calls;
                for (Place to : references(d)) if (kind(to) == 1 && !isSmall(to, new HashSet<>())) calls.add(to);
                return calls;
            }
        }

        // builds

        int[] why(Set<Integer> ring) {
            for (int m : ring) if (!last.containsKey(m)) return new int[] {1, m, -1, -1};
            for (int m : ring) if (!last.get(m).ring.equals(ring)) return new int[] {2, stand(ring), -1, -1};
            for (int m : ring) if (!last.get(m).texts.get(m).equals(modules.get(m).text())) return new int[] {3, m, -1, -1};
            for (Map.Entry<Integer, String> noted : last.get(stand(ring)).answers.entrySet()) {
                int asked = noted.getKey();
                if (!noted.getValue().equals(answer(asked, ring))) return new int[] {4, stand(ring), asked / 16, asked % 16};
            }
            return new int[] {0, -1, -1, -1};
        }

        boolean isStale(Set<Integer> ring) {
            return why(ring)[0] != 0;
        }

        boolean fits(Result result, Set<Integer> ring) {
            if (!result.ring.equals(ring)) return false;
            for (int m : ring) if (!result.texts.get(m).equals(modules.get(m).text())) return false;
            for (Map.Entry<Integer, String> noted : result.answers.entrySet()) {
                if (!noted.getValue().equals(answer(noted.getKey(), ring))) return false;
            }
            return true;
        }

        void renew(Set<Integer> ring) {
            Result result = null;
            for (Result kept : store) if (fits(kept, ring)) result = kept;
            boolean isFetched = result != null;
            if (isFetched) store.remove(result); else result = make(ring);
            store.add(result);
            if (store.size() > 10) store.remove(0);
            if (isFetched) ringsFetched++; else ringsBuilt++;
            for (int m : ring) {
                last.put(m, result);
                if (isFetched) modules.get(m).fetchedTimes++; else modules.get(m).builtTimes++;
            }
        }

        int build(int most) {
            need(most >= 1 && most <= 8);
            builds++;
            int done = 0;
            for (Set<Integer> ring : rings()) {
                if (!isStale(ring)) continue;
                if (done == most) break;
                renew(ring);
                done++;
            }
            return done;
        }

        int ofModule(int module, int what) {
            Module m = at(module);
            need(what >= 0 && what <= 8);
            int set = 0;
            for (int on : leansOn(module)) set += 1 << on;
            int[] all = {m.declarations.size(), m.imports.size(), stand(ringOf(module)), rings().indexOf(ringOf(module)), set,
                looksFor(module).size(), m.builtTimes, m.fetchedTimes, isStale(ringOf(module)) ? 1 : 0};
            return all[what];
        }

        int within(int module, int name, int what) {
            at(module);
            need(isName(name) && (what == 0 || what == 1));
            Place found = lookWithin(module, name);
            return what == 0 ? found.module : found.name;
        }

        int outside(int module, int name, int what) {
            at(module);
            need(isName(name) && what >= 0 && what <= 5);
            Place found = lookOutside(module, name);
            if (what < 2) return what == 0 ? found.module : found.name;
            if (found.equals(NOTHING) || found.equals(CLASH)) return 0;
            State s = lastState(found);
            int[] all = {s.kind == 0 ? 1 : 0, s.fault != 0 ? 1 : 0, s.isSmall ? 1 : 0, s.kind == 0 || s.isSmall ? s.number : 0};
            return all[what - 2];
        }

        int why(int module, int what) {
            at(module);
            need(what >= 0 && what <= 3);
            return why(ringOf(module))[what];
        }

        int built(int module, int name, int what) {
            at(module);
            need(isName(name) && what >= 0 && what <= 5);
            Result result = last.get(module);
            State s = result == null ? null : result.states.get(new Place(module, name));
            if (s == null) return -1;
            int[] all = {s.fault, s.isSmall ? 1 : 0, s.number, s.calls.size(), s.calls.isEmpty() ? -1 : s.calls.get(0).module,
                s.calls.isEmpty() ? -1 : s.calls.get(0).name};
            return all[what];
        }

        List<int[]> faults() {
            List<int[]> all = new ArrayList<>();
            for (int m = 0; m < modules.size(); m++) {
                for (int n = 0; n < 16; n++) if (built(m, n, 0) > 0) all.add(new int[] {built(m, n, 0), m, n});
            }
            return all;
        }

        int fault(int k, int what) {
            List<int[]> all = faults();
            if (k < 0 || k >= all.size()) throw new IndexOutOfBoundsException();
            need(what >= 0 && what <= 2);
            return all.get(k)[what];
        }

        int run(int module, int name) {
            at(module);
            need(isName(name));
            int[] calls = {0};
            Integer value = valueOf(new Place(module, name), 0, calls);
            return value == null ? -1000000 : value;
        }

        Integer valueOf(Place place, int depth, int[] calls) {
            State s = lastState(place);
            if (s.fault != 0 || depth > 30) return null;
            int sum = s.number;
            for (Place call : s.calls) {
                calls[0]++;
                if (calls[0] > 400) return null;
                Integer value = valueOf(call, depth + 1, calls);
                if (value == null) return null;
                sum += value;
            }
            return sum;
        }

        int many(int what) {
            need(what >= 0 && what <= 9);
            int declarations = 0, imports = 0, stale = 0;
            for (Module m : modules) {
                declarations += m.declarations.size();
                imports += m.imports.size();
            }
            for (Set<Integer> ring : rings()) if (isStale(ring)) stale++;
            int[] all = {modules.size(), declarations, imports, rings().size(), stale, faults().size(), store.size(), ringsBuilt,
                ringsFetched, builds};
            return all[what];
        }

        double fetchedPart() {
            return ringsBuilt + ringsFetched == 0 ? 0 : 1.0 * ringsFetched / (ringsBuilt + ringsFetched);
        }

        int wouldBuild() {
            return copy().build(8);
        }

        int builtBy(int module, int name, int number) {
            Module m = at(module);
            need(isName(name) && number >= -99 && number <= 99);
            Declaration d = m.declarations.get(name);
            if (d == null) return 0;
            Model then = copy();
            then.build(8);
            then.declare(module, name, d.kind, d.isPublic, number, d.p, d.q);
            return then.build(8);
        }

        int rounds(int workers) {
            need(workers >= 1 && workers <= 4);
            Model then = copy();
            for (int round = 0;; round++) {
                Set<Integer> stale = new HashSet<>();
                for (Set<Integer> ring : then.rings()) if (then.isStale(ring)) stale.addAll(ring);
                if (stale.isEmpty()) return round;
                List<Set<Integer>> now = new ArrayList<>();
                for (Set<Integer> ring : then.rings()) {
                    Set<Integer> on = then.leansFar(stand(ring));
                    on.removeAll(ring);
                    on.retainAll(stale);
                    if (stale.contains(stand(ring)) && on.isEmpty() && now.size() < workers) now.add(ring);
                }
                for (Set<Integer> ring : now) then.renew(ring);
            }
        }

        boolean isAsNew() {
            if (many(4) != 0) return false;
            Model fresh = copy();
            fresh.last.clear();
            fresh.store.clear();
            fresh.build(8);
            for (int m = 0; m < modules.size(); m++) {
                if (!last.get(m).states.equals(fresh.last.get(m).states)) return false;
            }
            return true;
        }

        long digest() {
            List<Integer> all = new ArrayList<>();
            for (int what = 0; what < 10; what++) all.add(many(what));
            for (int m = 0; m < modules.size(); m++) {
                for (int what = 0; what < 9; what++) all.add(ofModule(m, what));
                for (int what = 0; what < 4; what++) all.add(why(m, what));
                for (int n = 0; n < 16; n++) {
                    for (int what = 0; what < 2; what++) all.add(within(m, n, what));
                    for (int what = 0; what < 6; what++) all.add(outside(m, n, what));
                    for (int what = 0; what < 6; what++) all.add(built(m, n, what));
                    all.add(run(m, n));
                }
            }
            for (int[] fault : faults()) for (int part : fault) all.add(part);
            all.add(wouldBuild());
            all.add(rounds(1));
            all.add(rounds(2));
            all.add(isAsNew() ? 1 : 0);
            long d = 58138;
            for (int v : all) d = d * 31 + v;
            return d;
        }
    }
}
