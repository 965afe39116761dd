import java.util.ArrayList;
import java.util.Arrays;
import java.util.HashMap;
import java.util.HashSet;
import java.util.List;
import java.util.Map;
import java.util.Set;

/**
 * Compares the class, over many made-up runs of calls, with a slow model that is written from the
 * document's terms word by word. The runs come from a fixed seed, so they are always the same.
 */
public final class ModelTest extends Answers {
    private static final int RUNS = 300;

    private static long seed = 20261115L;

    record Rule(int from, int to, int sharedIs, int sharedBecomes, int crowd, int most, int token) { }

    record Alarm(int place, int least, int shared) { }

    record State(List<Integer> places, int shared, int holder) { }

    private static int below(int bound) {
        seed = seed * 6364136223846793005L + 1442695040888963407L;
        return (int) ((seed >>> 33) % bound);
    }

    public static void main(String[] args) {
        int violations = 0;
        int partlyEndless = 0;
        int longTraces = 0;
        for (int run = 1; run <= RUNS; run++) {
            about("run " + run);
            Model m = new Model(1 + below(4));
            changeAndAsk(m);
            compareCounts(remade(m), m);
            compareStates(m);
            violations += m.violation() > 0 ? 1 : 0;
            longTraces += m.violation() > 3 ? 1 : 0;
            partlyEndless += m.endless.size() > 0 && m.endless.size() < m.depths.size() ? 1 : 0;
        }
        if (violations < 50 || partlyEndless < 50 || longTraces < 10) {
            fail("the runs are too plain: " + violations + " " + partlyEndless + " " + longTraces);
        }
        end();
    }

    /** Changes and questions in turn, all on one object: at most 24 * (1 + 14) calls. */
    private static void changeAndAsk(Model m) {
        SymmetricChecker x = new SymmetricChecker(m.p);
        int changes = 8 + below(17);
        for (int n = 0; n < changes; n++) {
            change(x, m);
            m.explore();
            for (int k = 0; k < 14; k++) {
                ask(x, m, below(15));
            }
        }
    }

    /** A new object with the model's rules and alarms: an object is good for 512 calls only. */
    private static SymmetricChecker remade(Model m) {
        SymmetricChecker x = new SymmetricChecker(m.p);
        for (Rule r : m.rules) {
            x.addRule(3 * r.from() + r.to(), 4 * r.sharedIs() + r.sharedBecomes(), 4 * r.crowd() + r.most(), r.token());
        }
        for (Alarm a : m.alarms) {
            x.addAlarm(a.place(), a.least(), a.shared());
        }
        return x;
    }

    private static void change(SymmetricChecker x, Model m) {
        int kind = below(16);
        if (kind == 0) {
            int i = below(14) - 1;
            due("dropRule(" + i + ")", x.dropRule(i), m.dropRule(i));
        } else if (kind == 1 && below(3) == 0) {
            due("clearAlarms()", x.clearAlarms(), m.clearAlarms());
        } else if (kind <= 3) {
            int place = below(20) == 0 ? 3 : below(3);
            int least = below(20) == 0 ? 0 : below(2) == 0 ? m.p : 1 + below(4);
            int shared = below(20) == 0 ? -1 : below(4);
            due("addAlarm(" + place + ", " + least + ", " + shared + ")",
                    x.addAlarm(place, least, shared), m.addAlarm(place, least, shared));
        } else {
            // Rules that ask little lead further, so that there is something to compare.
            int move = below(30) == 0 ? 9 : below(9);
            int sharing = below(30) == 0 ? 16 : below(3) == 0 ? 12 + below(4) : below(16);
            int crowding = below(30) == 0 ? -1 : below(2) == 0 ? 4 * below(3) + 3 : below(12);
            int token = below(30) == 0 ? 5 : below(3) == 0 ? 0 : below(5);
            due("addRule(" + move + ", " + sharing + ", " + crowding + ", " + token + ")",
                    x.addRule(move, sharing, crowding, token), m.addRule(move, sharing, crowding, token));
        }
    }

    private static void ask(SymmetricChecker x, Model m, int question) {
        int code = below(m.states.size() + 2) - 1;
        int small = below(10) - 2;
        switch (question) {
            case 0 -> due("processes()", x.processes(), m.p);
            case 1 -> due("limit()", x.limit(), m.states.size());
            case 2 -> due("rules()", x.rules(), m.rules.size());
            case 3 -> due("reachable()", x.reachable(), m.depths.size());
            case 4 -> due("radius()", x.radius(), m.radius());
            case 5 -> due("badStates()", x.badStates(), m.bad.size());
            case 6 -> due("violation()", x.violation(), m.violation());
            case 7 -> due("stuckStates()", x.stuckStates(), m.stuck());
            case 8 -> due("endless()", x.endless(), m.endless.size());
            case 9, 10 -> due("trace(" + small + ")", x.trace(small), m.trace(small));
            case 11 -> due("layer(" + small + ")", x.layer(small), m.layer(small));
            case 12 -> due("depth(" + code + ")", x.depth(code), m.depth(code));
            case 13 -> due("choices(" + code + ")", x.choices(code), m.choices(code));
            default -> {
                int next = below(m.states.size() + 2) - 1;
                due("follows(" + code + ", " + next + ")", x.follows(code, next), m.follows(code, next));
            }
        }
    }

    private static void compareCounts(SymmetricChecker x, Model m) {
        for (int question = 0; question < 15; question++) {
            ask(x, m, question);
        }
        for (int i = -1; i <= m.violation() + 1 || i <= 1; i++) {
            due("trace(" + i + ")", x.trace(i), m.trace(i));
        }
        for (int depth = -2; depth <= m.radius() + 1; depth++) {
            due("layer(" + depth + ")", x.layer(depth), m.layer(depth));
        }
    }

    /** Every code, with the states that follow it and one other. */
    private static void compareStates(Model m) {
        SymmetricChecker x = remade(m);
        int calls = 0;
        for (int code = -1; code <= m.states.size(); code++) {
            calls += 3 + 2 * m.nextOf(code).size();
            if (calls > 480) {
                x = remade(m);
                calls = 3 + 2 * m.nextOf(code).size();
            }
            due("depth(" + code + ")", x.depth(code), m.depth(code));
            due("choices(" + code + ")", x.choices(code), m.choices(code));
            for (int next : m.nextOf(code)) {
                due("follows(" + code + ", " + next + ")", x.follows(code, next), 1);
                due("follows(" + next + ", " + code + ")", x.follows(next, code), m.follows(next, code));
            }
            int other = below(m.states.size());
            due("follows(" + code + ", " + other + ")", x.follows(code, other), m.follows(code, other));
        }
    }

    static final class Model {
        final int p;
        final Map<Integer, State> states = new HashMap<>();
        final List<Rule> rules = new ArrayList<>();
        final List<Alarm> alarms = new ArrayList<>();
        final Map<Integer, Set<Integer>> next = new HashMap<>();
        final Map<Integer, Integer> depths = new HashMap<>();
        final Set<Integer> bad = new HashSet<>();
        Set<Integer> endless = new HashSet<>();

        Model(int p) {
            this.p = p;
            int[] places = new int[p];
            do {
                for (int shared = 0; shared < 3; shared++) {
                    for (int holder = 0; holder <= p; holder++) {
                        State s = new State(listOf(places), shared, holder);
                        states.put(codeOf(s), s);
                    }
                }
            } while (nextPlaces(places));
        }

        static List<Integer> listOf(int[] places) {
            return Arrays.stream(places).boxed().toList();
        }

        static boolean nextPlaces(int[] places) {
            for (int k = 0; k < places.length; k++) {
                if (places[k] < 2) {
                    places[k]++;
                    return true;
                }
                places[k] = 0;
            }
            return false;
        }

        int codeOf(State s) {
            double code = Math.pow(3, p) * s.shared() + Math.pow(3, p + 1) * s.holder();
            for (int q = 0; q < p; q++) {
                code += Math.pow(3, q) * s.places().get(q);
            }
            return (int) Math.round(code);
        }

        int addRule(int move, int sharing, int crowding, int token) {
            if (move < 0 || move > 8) return -1;
            if (sharing < 0 || sharing > 15) return -2;
            if (crowding < 0 || crowding > 11) return -3;
            if (token < 0 || token > 4) return -4;
            if (rules.size() == 12) return -5;
            rules.add(new Rule(move / 3, move % 3, sharing / 4, sharing % 4, crowding / 4, crowding % 4, token));
            return rules.size();
        }

        int dropRule(int i) {
            if (i < 0 || i >= rules.size()) return -1;
            rules.remove(i);
            return rules.size();
        }

        int addAlarm(int place, int least, int shared) {
            if (place < 0 || place > 2) return -1;
            if (least < 1 || least > 4) return -2;
            if (shared < 0 || shared > 3) return -3;
            if (alarms.size() == 4) return -4;
            alarms.add(new Alarm(place, least, shared));
            return alarms.size();
        }

        int clearAlarms() {
            int before = alarms.size();
            alarms.clear();
            return before;
        }

        boolean canTake(State s, int q, Rule r) {
            int others = 0;
            for (int o = 0; o < p; o++) {
                if (o != q && s.places().get(o) == r.crowd()) others++;
            }
            boolean tokenFits = switch (r.token()) {
                case 1 -> s.holder() == p;
                case 2, 3 -> s.holder() == q;
                case 4 -> s.holder() != q;
                default -> true;
            };
            boolean sharedFits = r.sharedIs() == 3 || r.sharedIs() == s.shared();
            return s.places().get(q) == r.from() && sharedFits && others <= r.most() && tokenFits;
        }

        State take(State s, int q, Rule r) {
            List<Integer> places = new ArrayList<>(s.places());
            places.set(q, r.to());
            int shared = r.sharedBecomes() == 3 ? s.shared() : r.sharedBecomes();
            int holder = r.token() == 1 ? q : r.token() == 2 ? p : s.holder();
            return new State(places, shared, holder);
        }

        void explore() {
            next.clear();
            for (int code : states.keySet()) {
                Set<Integer> after = new HashSet<>();
                for (int q = 0; q < p; q++) {
                    for (Rule r : rules) {
                        if (canTake(states.get(code), q, r)) after.add(codeOf(take(states.get(code), q, r)));
                    }
                }
                next.put(code, after);
            }
            depths.clear();
            Set<Integer> inSteps = Set.of(codeOf(new State(listOf(new int[p]), 0, p)));
            for (int d = 0; d <= states.size() && !inSteps.isEmpty(); d++) {
                Set<Integer> later = new HashSet<>();
                for (int code : inSteps) {
                    if (depths.putIfAbsent(code, d) == null) later.addAll(next.get(code));
                }
                inSteps = later;
            }
            bad.clear();
            for (int code : depths.keySet()) {
                if (isBad(states.get(code))) bad.add(code);
            }
            findEndless();
        }

        boolean isBad(State s) {
            for (Alarm a : alarms) {
                long there = s.places().stream().filter(place -> place == a.place()).count();
                if (there >= a.least() && (a.shared() == 3 || a.shared() == s.shared())) return true;
            }
            return false;
        }

        /** The states from which walks of length k start, for k = 0, 1, .. until they stay the same. */
        void findEndless() {
            Set<Integer> walkers = new HashSet<>(depths.keySet());
            Set<Integer> before = null;
            while (!walkers.equals(before)) {
                before = walkers;
                walkers = new HashSet<>();
                for (int code : depths.keySet()) {
                    for (int t : next.get(code)) {
                        if (before.contains(t)) walkers.add(code);
                    }
                }
            }
            endless = walkers;
        }

        Set<Integer> nextOf(int code) {
            return next.getOrDefault(code, Set.of());
        }

        int depth(int code) {
            if (!states.containsKey(code)) return -1;
            return depths.getOrDefault(code, -2);
        }

        int radius() {
            return depths.values().stream().max(Integer::compare).get();
        }

        int layer(int depth) {
            return (int) depths.values().stream().filter(d -> d == depth).count();
        }

        int violation() {
            return bad.stream().map(depths::get).min(Integer::compare).orElse(-1);
        }

        int stuck() {
            return (int) depths.keySet().stream().filter(code -> next.get(code).isEmpty()).count();
        }

        int choices(int code) {
            if (!states.containsKey(code)) return -1;
            int count = 0;
            for (int q = 0; q < p; q++) {
                for (Rule r : rules) {
                    if (canTake(states.get(code), q, r)) count++;
                }
            }
            return count;
        }

        int follows(int code, int t) {
            if (!states.containsKey(code) || !states.containsKey(t)) return -1;
            return next.get(code).contains(t) ? 1 : 0;
        }

        int trace(int i) {
            int d = violation();
            if (d < 0) return -1;
            if (i < 0 || i > d) return -2;
            int code = bad.stream().filter(c -> depths.get(c) == d).min(Integer::compare).get();
            for (int k = d - 1; k >= i; k--) {
                int depth = k;
                int later = code;
                code = depths.keySet().stream()
                        .filter(c -> depths.get(c) == depth && next.get(c).contains(later))
                        .min(Integer::compare).get();
            }
            return code;
        }
    }
}
