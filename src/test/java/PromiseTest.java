/** For each promise of the document: ordinary inputs, the edges that it names, and wrong inputs. */
public final class PromiseTest extends Answers {
    public static void main(String[] args) {
        test(PromiseTest::newObject);
        test(PromiseTest::processes);
        test(PromiseTest::limit);
        test(PromiseTest::addRule);
        test(PromiseTest::ruleParts);
        test(PromiseTest::dropRule);
        test(PromiseTest::addAlarm);
        test(PromiseTest::clearAlarms);
        test(PromiseTest::rules);
        test(PromiseTest::reachable);
        test(PromiseTest::depth);
        test(PromiseTest::radius);
        test(PromiseTest::layer);
        test(PromiseTest::badStates);
        test(PromiseTest::violation);
        test(PromiseTest::stuckStates);
        test(PromiseTest::choices);
        test(PromiseTest::follows);
        test(PromiseTest::trace);
        test(PromiseTest::endless);
        test(PromiseTest::everyState);
        end();
    }

    private static void newObject() {
        about("promise 1");
        int[] given = {LOW, -1, 0, 1, 2, 3, 4, 5, HIGH};
        int[] kept = {1, 1, 1, 1, 2, 3, 4, 4, 4};
        for (int k = 0; k < given.length; k++) {
            SymmetricChecker x = new SymmetricChecker(given[k]);
            String made = "new SymmetricChecker(" + given[k] + ")";
            due(made + ".processes()", x.processes(), kept[k]);
            due(made + ".rules()", x.rules(), 0);
            due(made + ".reachable()", x.reachable(), 1);
            due(made + ".depth(start)", x.depth(code(0, kept[k], new int[kept[k]])), 0);
            due(made + ".badStates()", x.badStates(), 0);
            due(made + ".stuckStates()", x.stuckStates(), 1);
            due(made + ".endless()", x.endless(), 0);
            due(made + ".clearAlarms()", x.clearAlarms(), 0);
        }
        SymmetricChecker one = walkers(2);
        SymmetricChecker other = new SymmetricChecker(2);
        due("rules() of another object", other.rules(), 0);
        due("reachable() of another object", other.reachable(), 1);
        due("rules() of the first object", one.rules(), 2);
    }

    private static void processes() {
        about("promise 2");
        for (int p = 1; p <= 4; p++) {
            SymmetricChecker x = walkers(p);
            due("processes()", x.processes(), p);
            x.dropRule(0);
            x.addAlarm(0, 1, 3);
            due("processes() after changes", x.processes(), p);
        }
    }

    private static void limit() {
        about("promise 3");
        int[] limits = {18, 81, 324, 1215};
        for (int p = 1; p <= 4; p++) {
            SymmetricChecker x = new SymmetricChecker(p);
            due("limit() for " + p, x.limit(), limits[p - 1]);
            due("choices(limit() - 1)", x.choices(limits[p - 1] - 1), 0);
            due("choices(limit())", x.choices(limits[p - 1]), -1);
        }
        due("limit() for 0", new SymmetricChecker(0).limit(), 18);
        due("limit() for 5", new SymmetricChecker(5).limit(), 1215);
    }

    private static void addRule() {
        about("promise 4");
        SymmetricChecker x = new SymmetricChecker(2);
        refuseWrongRules(x, 0);
        due("addRule(0, 0, 0, 0)", x.addRule(0, 0, 0, 0), 1);
        due("addRule(8, 15, 11, 4)", x.addRule(8, 15, 11, 4), 2);
        for (int n = 3; n <= 12; n++) {
            due("addRule as number " + n, x.addRule(8, 0, 0, 0), n);
        }
        due("addRule as number 13", x.addRule(1, ANY, ROOM, 0), -5);
        due("reachable() after a refused rule", x.reachable(), 1);
        refuseWrongRules(x, 12);
        due("dropRule(11)", x.dropRule(11), 11);
        due("addRule in the free place", x.addRule(1, ANY, ROOM, 0), 12);
        due("reachable() after the twelfth rule", x.reachable(), 4);
        due("addRule when full again", x.addRule(1, ANY, ROOM, 0), -5);
    }

    private static void refuseWrongRules(SymmetricChecker x, int before) {
        for (int bad : new int[] {LOW, -1, 9, HIGH}) {
            due("addRule(" + bad + ", 0, 0, 0)", x.addRule(bad, 0, 0, 0), -1);
            due("addRule(" + bad + ", -1, -1, -1)", x.addRule(bad, -1, -1, -1), -1);
        }
        for (int bad : new int[] {LOW, -1, 16, HIGH}) {
            due("addRule(0, " + bad + ", 0, 0)", x.addRule(0, bad, 0, 0), -2);
            due("addRule(8, " + bad + ", 12, 5)", x.addRule(8, bad, 12, 5), -2);
        }
        for (int bad : new int[] {LOW, -1, 12, HIGH}) {
            due("addRule(0, 0, " + bad + ", 0)", x.addRule(0, 0, bad, 0), -3);
            due("addRule(8, 15, " + bad + ", 5)", x.addRule(8, 15, bad, 5), -3);
        }
        for (int bad : new int[] {LOW, -1, 5, HIGH}) {
            due("addRule(8, 15, 11, " + bad + ")", x.addRule(8, 15, 11, bad), -4);
        }
        due("rules() after refused calls", x.rules(), before);
    }

    /** What move and sharing mean, told by the one state that follows. */
    private static void ruleParts() {
        about("promise 4");
        for (int from = 0; from < 3; from++) {
            for (int to = 0; to < 3; to++) {
                for (int is = 0; is < 4; is++) {
                    for (int becomes = 0; becomes < 4; becomes++) {
                        SymmetricChecker x = withRule(1, 3 * from + to, 4 * is + becomes, 0, 0);
                        askEveryStep(x, from, to, is, becomes);
                    }
                }
            }
        }
    }

    private static void askEveryStep(SymmetricChecker x, int from, int to, int is, int becomes) {
        for (int place = 0; place < 3; place++) {
            for (int shared = 0; shared < 3; shared++) {
                boolean can = place == from && (is == 3 || is == shared);
                int next = code(becomes == 3 ? shared : becomes, 1, to);
                for (int t = 0; t < 18; t++) {
                    String call = "follows(" + code(shared, 1, place) + ", " + t + ") for " + from + to + is + becomes;
                    due(call, x.follows(code(shared, 1, place), t), can && t == next ? 1 : 0);
                }
            }
        }
    }

    private static void dropRule() {
        about("promise 5");
        SymmetricChecker x = new SymmetricChecker(1);
        due("dropRule(0) of none", x.dropRule(0), -1);
        due("dropRule(-1) of none", x.dropRule(-1), -1);
        x.addRule(1, 0, 0, 0);      // 0 -> 1, shared 0 stays 0
        x.addRule(5, 1, 1, 1);      // 1 -> 2, shared 0 becomes 1, takes the token
        x.addRule(6, 4, 2, 2);      // 2 -> 0, shared 1 becomes 0, drops the token
        due("reachable()", x.reachable(), 3);
        due("endless()", x.endless(), 3);
        due("dropRule(3)", x.dropRule(3), -1);
        due("dropRule(-1)", x.dropRule(-1), -1);
        due("dropRule(LOW)", x.dropRule(LOW), -1);
        due("dropRule(HIGH)", x.dropRule(HIGH), -1);
        due("rules() after refused calls", x.rules(), 3);
        due("dropRule(0)", x.dropRule(0), 2);
        due("reachable() without the first", x.reachable(), 1);
        due("follows by the old second", x.follows(code(0, 1, 1), code(1, 0, 2)), 1);
        due("follows by the old third", x.follows(code(1, 0, 2), code(0, 1, 0)), 1);
        due("follows by the one dropped", x.follows(code(0, 1, 0), code(0, 1, 1)), 0);
        due("dropRule(1)", x.dropRule(1), 1);
        due("follows by the one kept", x.follows(code(0, 1, 1), code(1, 0, 2)), 1);
        due("follows by the last dropped", x.follows(code(1, 0, 2), code(0, 1, 0)), 0);
        due("dropRule(1) of one", x.dropRule(1), -1);
        due("dropRule(0) of one", x.dropRule(0), 0);
        due("dropRule(0) of none left", x.dropRule(0), -1);
        dropFromFull();
    }

    private static void dropFromFull() {
        SymmetricChecker x = new SymmetricChecker(1);
        for (int n = 0; n < 12; n++) {
            x.addRule(n == 11 ? 2 : n == 5 ? 1 : 8, ANY, ROOM, 0);
        }
        due("reachable() of twelve", x.reachable(), 3);
        due("dropRule(5) of twelve", x.dropRule(5), 11);
        due("reachable() of eleven", x.reachable(), 2);
        due("depth of the twelfth's state", x.depth(code(0, 1, 2)), 1);
        due("dropRule(11) of eleven", x.dropRule(11), -1);
        due("dropRule(10) of eleven", x.dropRule(10), 10);
        due("reachable() of ten", x.reachable(), 1);
    }

    private static void addAlarm() {
        about("promise 6");
        SymmetricChecker x = new SymmetricChecker(1);
        refuseWrongAlarms(x);
        due("clearAlarms() after refused calls", x.clearAlarms(), 0);
        due("addAlarm(2, 4, 3)", x.addAlarm(2, 4, 3), 1);
        due("addAlarm(1, 1, 0)", x.addAlarm(1, 1, 0), 2);
        due("addAlarm(0, 4, 2)", x.addAlarm(0, 4, 2), 3);
        due("badStates() before the fourth", x.badStates(), 0);
        due("addAlarm(0, 1, 0)", x.addAlarm(0, 1, 0), 4);
        due("badStates() by the fourth", x.badStates(), 1);
        due("addAlarm as a fifth", x.addAlarm(0, 1, 0), -4);
        refuseWrongAlarms(x);
        due("clearAlarms()", x.clearAlarms(), 4);
        for (int n = 1; n <= 4; n++) {
            due("addAlarm(2, 1, 0)", x.addAlarm(2, 1, 0), n);
        }
        due("addAlarm(0, 1, 3) as a fifth", x.addAlarm(0, 1, 3), -4);
        due("badStates() after a refused alarm", x.badStates(), 0);
    }

    private static void refuseWrongAlarms(SymmetricChecker x) {
        for (int bad : new int[] {LOW, -1, 3, HIGH}) {
            due("addAlarm(" + bad + ", 1, 0)", x.addAlarm(bad, 1, 0), -1);
            due("addAlarm(" + bad + ", 0, -1)", x.addAlarm(bad, 0, -1), -1);
        }
        for (int bad : new int[] {LOW, 0, 5, HIGH}) {
            due("addAlarm(0, " + bad + ", 0)", x.addAlarm(0, bad, 0), -2);
            due("addAlarm(2, " + bad + ", 4)", x.addAlarm(2, bad, 4), -2);
        }
        for (int bad : new int[] {LOW, -1, 4, HIGH}) {
            due("addAlarm(0, 1, " + bad + ")", x.addAlarm(0, 1, bad), -3);
            due("addAlarm(2, 4, " + bad + ")", x.addAlarm(2, 4, bad), -3);
        }
    }

    private static void clearAlarms() {
        about("promise 7");
        SymmetricChecker x = walkers(2);
        due("clearAlarms() of none", x.clearAlarms(), 0);
        x.addAlarm(0, 1, 3);
        due("violation() with an alarm", x.violation(), 0);
        x.addAlarm(1, 1, 3);
        x.addAlarm(2, 1, 3);
        due("clearAlarms()", x.clearAlarms(), 3);
        due("clearAlarms() again", x.clearAlarms(), 0);
        due("badStates()", x.badStates(), 0);
        due("violation()", x.violation(), -1);
        due("trace(0)", x.trace(0), -1);
        due("rules()", x.rules(), 2);
        due("addAlarm(2, 2, 3)", x.addAlarm(2, 2, 3), 1);
        due("badStates() by the new alarm alone", x.badStates(), 1);
    }

    private static void rules() {
        about("promise 8");
        SymmetricChecker x = new SymmetricChecker(3);
        due("rules() of none", x.rules(), 0);
        for (int n = 1; n <= 12; n++) {
            x.addRule(0, 0, 0, 0);
            due("rules()", x.rules(), n);
        }
        x.addRule(0, 0, 0, 0);
        due("rules() after a thirteenth", x.rules(), 12);
        x.addAlarm(0, 1, 0);
        due("rules() after an alarm", x.rules(), 12);
        x.dropRule(4);
        due("rules() after a drop", x.rules(), 11);
        x.dropRule(11);
        due("rules() after a refused drop", x.rules(), 11);
    }

    private static void reachable() {
        about("promise 9");
        int[] walked = {3, 9, 27, 81};
        for (int p = 1; p <= 4; p++) {
            due("reachable() for " + p, walkers(p).reachable(), walked[p - 1]);
        }
        SymmetricChecker x = allStates(4);
        due("reachable() of all states", x.reachable(), 1215);
        due("depth(0) of all states", x.depth(0), 1);
        due("depth(1214) of all states", x.depth(1214), 4 + 2);
        due("dropRule of the taking rule", x.dropRule(5), 6);
        due("reachable() without taking", x.reachable(), 243);
        due("reachable() for 1 of all states", allStates(1).reachable(), 18);
        SymmetricChecker y = withRule(2, 3, ANY, ROOM, 0);
        due("reachable() with no rule for the start", y.reachable(), 1);
    }

    private static void depth() {
        about("promise 10");
        SymmetricChecker x = walkers(2);
        for (int a = 0; a < 3; a++) {
            for (int b = 0; b < 3; b++) {
                due("depth of " + a + ", " + b, x.depth(code(0, 2, a, b)), a + b);
                due("depth of " + a + ", " + b + " and shared 1", x.depth(code(1, 2, a, b)), -2);
                due("depth of " + a + ", " + b + " and holder 0", x.depth(code(0, 0, a, b)), -2);
            }
        }
        due("depth(0)", x.depth(0), -2);
        due("depth(80)", x.depth(80), -2);
        for (int bad : new int[] {LOW, -1, 81, 82, HIGH}) {
            due("depth(" + bad + ")", x.depth(bad), -1);
        }
        x.addRule(2, ANY, ROOM, 0);
        due("depth by a shorter way", x.depth(code(0, 2, 2, 2)), 2);
        due("depth(1215)", new SymmetricChecker(4).depth(1215), -1);
        due("depth(18)", new SymmetricChecker(1).depth(18), -1);
    }

    private static void radius() {
        about("promise 11");
        due("radius() of the start alone", new SymmetricChecker(4).radius(), 0);
        for (int p = 1; p <= 4; p++) {
            due("radius() for " + p, walkers(p).radius(), 2 * p);
        }
        SymmetricChecker x = walkers(3);
        x.addRule(2, ANY, ROOM, 0);
        due("radius() by a shorter way", x.radius(), 3);
        x.dropRule(2);
        due("radius() by the long way", x.radius(), 6);
        due("radius() of a step in place", withRule(2, 0, ANY, ROOM, 0).radius(), 0);
    }

    private static void layer() {
        about("promise 12");
        SymmetricChecker x = walkers(2);
        int[] counts = {1, 2, 3, 2, 1};
        for (int d = 0; d < counts.length; d++) {
            due("layer(" + d + ")", x.layer(d), counts[d]);
        }
        for (int none : new int[] {LOW, -2, -1, 5, 81, HIGH}) {
            due("layer(" + none + ")", x.layer(none), 0);
        }
        due("layer(0) of no rules", new SymmetricChecker(3).layer(0), 1);
        due("layer(1) of no rules", new SymmetricChecker(3).layer(1), 0);
    }

    private static void badStates() {
        about("promise 13");
        SymmetricChecker x = walkers(2);
        due("badStates() without alarms", x.badStates(), 0);
        x.addAlarm(2, 1, 3);
        due("badStates() by place 2", x.badStates(), 5);
        x.addAlarm(2, 2, 0);
        due("badStates() by two alarms at once", x.badStates(), 5);
        x.addAlarm(1, 2, 0);
        due("badStates() by place 2 or twice 1", x.badStates(), 6);
        x.addAlarm(0, 1, 1);
        due("badStates() that cannot be reached", x.badStates(), 6);
        x.dropRule(1);
        due("badStates() after a drop", x.badStates(), 1);
        SymmetricChecker y = walkers(3);
        y.addAlarm(0, 4, 3);
        due("badStates() by more than there are", y.badStates(), 0);
        y.addAlarm(0, 3, 3);
        due("badStates() by all at 0", y.badStates(), 1);
    }

    private static void violation() {
        about("promise 14");
        SymmetricChecker x = walkers(3);
        due("violation() without alarms", x.violation(), -1);
        x.addAlarm(1, 1, 1);
        due("violation() by a shared value not reached", x.violation(), -1);
        x.addAlarm(2, 3, 0);
        due("violation() by all at 2", x.violation(), 6);
        x.addAlarm(1, 3, 3);
        due("violation() by all at 1", x.violation(), 3);
        x.addAlarm(0, 3, 0);
        due("violation() at the start", x.violation(), 0);
        x.clearAlarms();
        x.addAlarm(2, 2, 3);
        due("violation() by two at 2", x.violation(), 4);
        x.dropRule(1);
        due("violation() after a drop", x.violation(), -1);
    }

    private static void stuckStates() {
        about("promise 15");
        due("stuckStates() of the start alone", new SymmetricChecker(2).stuckStates(), 1);
        SymmetricChecker x = walkers(2);
        due("stuckStates() of walkers", x.stuckStates(), 1);
        x.addRule(8, ANY, ROOM, 0);
        due("stuckStates() when all can step in place", x.stuckStates(), 0);
        x.dropRule(2);
        x.dropRule(1);
        due("stuckStates() after drops", x.stuckStates(), 1);
        SymmetricChecker y = withRule(3, 1, ANY, ROOM, 1);
        due("stuckStates() by a token", y.stuckStates(), 3);
        SymmetricChecker z = new SymmetricChecker(1);
        z.addRule(1, ANY, ROOM, 0);
        z.addRule(2, ANY, ROOM, 0);
        z.addRule(8, ANY, ROOM, 0);
        due("stuckStates() beside a step in place", z.stuckStates(), 1);
    }

    private static void choices() {
        about("promise 16");
        SymmetricChecker x = new SymmetricChecker(2);
        due("choices(0) without rules", x.choices(0), 0);
        x.addRule(1, ANY, ROOM, 0);
        due("choices(start)", x.choices(54), 2);
        x.addRule(1, ANY, ROOM, 0);
        due("choices(start) by two equal rules", x.choices(54), 4);
        x.addRule(0, 1, ROOM, 0);
        due("choices(start) by three rules", x.choices(54), 6);
        due("choices of shared 2", x.choices(code(2, 2, 0, 0)), 4);
        due("choices of an unreachable state", x.choices(code(2, 0, 0, 1)), 2);
        due("choices of a stuck state", x.choices(code(0, 2, 1, 2)), 0);
        for (int bad : new int[] {LOW, -1, 81, HIGH}) {
            due("choices(" + bad + ")", x.choices(bad), -1);
        }
        due("choices(80)", x.choices(80), 0);
        SymmetricChecker y = new SymmetricChecker(4);
        for (int n = 0; n < 12; n++) {
            y.addRule(8, ANY, 3, 0);
        }
        due("choices(1214), the most there can be", y.choices(1214), 48);
        due("choices(1215)", y.choices(1215), -1);
    }

    private static void follows() {
        about("promise 17");
        SymmetricChecker x = walkers(2);
        due("follows of the start", x.follows(54, 55), 1);
        due("follows of the start by the other", x.follows(54, 57), 1);
        due("follows of the start by both", x.follows(54, 58), 0);
        due("follows backwards", x.follows(55, 54), 0);
        due("follows itself", x.follows(54, 54), 0);
        due("follows of unreachable ones", x.follows(code(2, 0, 0, 1), code(2, 0, 0, 2)), 1);
        due("follows of the last", x.follows(80, 80), 0);
        for (int bad : new int[] {LOW, -1, 81, HIGH}) {
            due("follows(" + bad + ", 0)", x.follows(bad, 0), -1);
            due("follows(0, " + bad + ")", x.follows(0, bad), -1);
            due("follows(" + bad + ", " + bad + ")", x.follows(bad, bad), -1);
        }
        x.addRule(0, ANY, ROOM, 0);
        due("follows itself by a step in place", x.follows(54, 54), 1);
        due("follows(58, 58)", x.follows(58, 58), 0);
    }

    private static void trace() {
        about("promise 18");
        SymmetricChecker x = walkers(2);
        for (int i : new int[] {LOW, -1, 0, 1, HIGH}) {
            due("trace(" + i + ") without alarms", x.trace(i), -1);
        }
        x.addAlarm(1, 2, 3);
        dueTrace(x, 54, 55, 58);
        x.addAlarm(0, 2, 3);
        dueTrace(x, 54);
        x.clearAlarms();
        x.addAlarm(2, 1, 3);
        dueTrace(x, 54, 55, 56);
        x.clearAlarms();
        x.addAlarm(2, 2, 0);
        dueTrace(x, 54, 55, 56, 59, 62);
        x.dropRule(1);
        due("trace(0) after a drop", x.trace(0), -1);
        due("trace(9) after a drop", x.trace(9), -1);
    }

    private static void endless() {
        about("promise 19");
        due("endless() without rules", new SymmetricChecker(3).endless(), 0);
        SymmetricChecker x = walkers(2);
        due("endless() of walkers", x.endless(), 0);
        x.addRule(6, ANY, ROOM, 0);
        due("endless() of a round", x.endless(), 9);
        x.dropRule(2);
        due("endless() after a drop", x.endless(), 0);
        x.addRule(8, ANY, 8, 0);
        due("endless() when one can step at 2 if no other is there", x.endless(), 8);
        due("stuckStates() when both at 2 are stuck", x.stuckStates(), 1);
        SymmetricChecker y = new SymmetricChecker(1);
        y.addRule(1, ANY, ROOM, 0);
        y.addRule(2, ANY, ROOM, 0);
        y.addRule(8, ANY, ROOM, 0);
        due("endless() beside a dead end", y.endless(), 2);
        y.dropRule(1);
        due("endless() with a step in place out of reach", y.endless(), 0);
        due("follows itself out of reach", y.follows(code(0, 1, 2), code(0, 1, 2)), 1);
        SymmetricChecker z = walkers(4);
        due("endless() of a long way", z.endless(), 0);
        z.addRule(8, ANY, 11, 0);
        due("endless() of a long way with a step in place at its end", z.endless(), 81);
    }

    /** Every question on an object of which all 1215 states are reachable. */
    private static void everyState() {
        SymmetricChecker x = allStates(4);
        x.addAlarm(0, 1, 3);
        about("promise 11");
        due("radius() of all states", x.radius(), 7);
        about("promise 12");
        due("layer(0) of all states", x.layer(0), 1);
        due("layer(1) of all states", x.layer(1), 8 + 1 + 4);
        due("layer(7) of all states", x.layer(7), 16 * 4);
        due("layer(8) of all states", x.layer(8), 0);
        due("layer(-2) of all states", x.layer(-2), 0);
        about("promise 13");
        due("badStates() of all states", x.badStates(), 65 * 15);
        about("promise 14");
        due("violation() of all states", x.violation(), 0);
        about("promise 15");
        due("stuckStates() of all states", x.stuckStates(), 0);
        about("promise 18");
        dueTrace(x, 972);
        x.clearAlarms();
        x.addAlarm(2, 4, 2);
        // The shared value changes only by a process at 0, and late, since that keeps the codes least.
        dueTrace(x, 972, 972 + 2, 972 + 8, 972 + 26, 972 + 81 + 26, 972 + 162 + 26, 1214);
        about("promise 19");
        due("endless() of all states", x.endless(), 1215);
    }
}
