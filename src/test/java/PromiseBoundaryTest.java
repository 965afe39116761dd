/**
 * A test for each sentence of the promises that names a boundary case. The words of the sentence stand
 * first in its test, and before each wrong answer in what is printed.
 */
public final class PromiseBoundaryTest extends Answers {
    public static void main(String[] args) {
        test(PromiseBoundaryTest::tooFewProcesses);
        test(PromiseBoundaryTest::tooManyProcesses);
        test(PromiseBoundaryTest::emptyAtFirst);
        test(PromiseBoundaryTest::processes);
        test(PromiseBoundaryTest::limit);
        test(PromiseBoundaryTest::ruleAtTheEnd);
        test(PromiseBoundaryTest::moveParts);
        test(PromiseBoundaryTest::sharingParts);
        test(PromiseBoundaryTest::crowdingParts);
        test(PromiseBoundaryTest::wrongMove);
        test(PromiseBoundaryTest::wrongSharing);
        test(PromiseBoundaryTest::wrongCrowding);
        test(PromiseBoundaryTest::wrongToken);
        test(PromiseBoundaryTest::twelveRules);
        test(PromiseBoundaryTest::rulesHeldNow);
        test(PromiseBoundaryTest::droppedPosition);
        test(PromiseBoundaryTest::noSuchRule);
        test(PromiseBoundaryTest::rulesLeft);
        test(PromiseBoundaryTest::alarmAtTheEnd);
        test(PromiseBoundaryTest::wrongPlace);
        test(PromiseBoundaryTest::wrongLeast);
        test(PromiseBoundaryTest::wrongShared);
        test(PromiseBoundaryTest::fourAlarms);
        test(PromiseBoundaryTest::alarmsNow);
        test(PromiseBoundaryTest::clearAlarms);
        test(PromiseBoundaryTest::rules);
        test(PromiseBoundaryTest::reachable);
        test(PromiseBoundaryTest::depth);
        test(PromiseBoundaryTest::depthOfNoCode);
        test(PromiseBoundaryTest::depthOfUnreachable);
        test(PromiseBoundaryTest::radius);
        test(PromiseBoundaryTest::layer);
        test(PromiseBoundaryTest::layerOfNone);
        test(PromiseBoundaryTest::badStates);
        test(PromiseBoundaryTest::violation);
        test(PromiseBoundaryTest::noViolation);
        test(PromiseBoundaryTest::stuckStates);
        test(PromiseBoundaryTest::choices);
        test(PromiseBoundaryTest::choicesOfNoCode);
        test(PromiseBoundaryTest::choicesOfUnreachable);
        test(PromiseBoundaryTest::follows);
        test(PromiseBoundaryTest::followsOfNoCode);
        test(PromiseBoundaryTest::followsOfUnreachable);
        test(PromiseBoundaryTest::traceEnd);
        test(PromiseBoundaryTest::traceBefore);
        test(PromiseBoundaryTest::noTrace);
        test(PromiseBoundaryTest::noSuchDepth);
        test(PromiseBoundaryTest::endless);
        test(PromiseBoundaryTest::everyLength);
        end();
    }

    private static void tooFewProcesses() {
        about("Promise 1: below 1 becomes 1");
        for (int few : new int[] {LOW, LOW + 1, -4, -1, 0}) {
            SymmetricChecker x = new SymmetricChecker(few);
            due("processes() of " + few, x.processes(), 1);
            due("limit() of " + few, x.limit(), 18);
            due("depth(9) of " + few, x.depth(9), 0);
        }
        due("processes() of 1", new SymmetricChecker(1).processes(), 1);
        due("processes() of 2", new SymmetricChecker(2).processes(), 2);
    }

    private static void tooManyProcesses() {
        about("Promise 1: above 4 becomes 4");
        for (int many : new int[] {5, 6, 1000, HIGH}) {
            SymmetricChecker x = new SymmetricChecker(many);
            due("processes() of " + many, x.processes(), 4);
            due("limit() of " + many, x.limit(), 1215);
            due("depth(972) of " + many, x.depth(972), 0);
        }
        due("processes() of 4", new SymmetricChecker(4).processes(), 4);
        due("processes() of 3", new SymmetricChecker(3).processes(), 3);
    }

    private static void emptyAtFirst() {
        about("Promise 1: No rules and no alarms at first.");
        for (int p = 1; p <= 4; p++) {
            SymmetricChecker x = new SymmetricChecker(p);
            due("rules()", x.rules(), 0);
            due("dropRule(0)", x.dropRule(0), -1);
            due("reachable()", x.reachable(), 1);
            due("radius()", x.radius(), 0);
            due("stuckStates()", x.stuckStates(), 1);
            due("endless()", x.endless(), 0);
            due("badStates()", x.badStates(), 0);
            due("violation()", x.violation(), -1);
            due("trace(0)", x.trace(0), -1);
            due("clearAlarms()", x.clearAlarms(), 0);
        }
        walkers(2).addAlarm(0, 1, 3);
        due("rules() of an object made after another", new SymmetricChecker(2).rules(), 0);
        due("clearAlarms() of an object made after another", new SymmetricChecker(2).clearAlarms(), 0);
    }

    private static void processes() {
        about("Promise 2: P.");
        for (int p = 1; p <= 4; p++) {
            SymmetricChecker x = allStates(p);
            due("processes() of " + p + " with rules", x.processes(), p);
            x.dropRule(0);
            due("processes() of " + p + " after a drop", x.processes(), p);
        }
    }

    private static void limit() {
        about("Promise 3: 3^(P+1) * (P+1)");
        due("limit() of 1", new SymmetricChecker(1).limit(), 18);
        due("limit() of 2", new SymmetricChecker(2).limit(), 81);
        due("limit() of 3", new SymmetricChecker(3).limit(), 324);
        due("limit() of 4", new SymmetricChecker(4).limit(), 1215);
    }

    private static void ruleAtTheEnd() {
        about("Promise 4: Puts a rule at the end of the list.");
        for (int count = 1; count <= 12; count++) {
            SymmetricChecker x = new SymmetricChecker(1);
            for (int n = 0; n < count; n++) {
                addRuleFor(x, n);
            }
            x.dropRule(count - 1);
            dueRules(x, "the last of " + count + " is dropped", 0, count, count - 1);
        }
    }

    /** Twelve states of one process; the rule of each number can be taken in the state of that number alone. */
    private static int stateOf(int number) {
        return number < 9 ? 9 + number : number - 9;
    }

    private static void addRuleFor(SymmetricChecker x, int number) {
        int place = number % 3;
        int shared = number / 3 % 3;
        x.addRule(4 * place, 5 * shared, ROOM, number < 9 ? 4 : 3);
    }

    /** The rules of the numbers from .. below are there, except for one. */
    private static void dueRules(SymmetricChecker x, String after, int from, int below, int except) {
        for (int n = 0; n < 12; n++) {
            int want = n >= from && n < below && n != except ? 1 : 0;
            due("choices(" + stateOf(n) + ") after " + after, x.choices(stateOf(n)), want);
        }
    }

    private static void moveParts() {
        about("Promise 4: move is 3 * from + to");
        int[][] fromTo = {{0, 0}, {0, 1}, {0, 2}, {1, 0}, {1, 1}, {1, 2}, {2, 0}, {2, 1}, {2, 2}};
        for (int move = 0; move <= 8; move++) {
            SymmetricChecker x = new SymmetricChecker(1);
            due("addRule(" + move + ", ..)", x.addRule(move, ANY, ROOM, 0), 1);
            int from = fromTo[move][0];
            int to = fromTo[move][1];
            due("follows by move " + move, x.follows(code(1, 0, from), code(1, 0, to)), 1);
            for (int place = 0; place < 3; place++) {
                due("choices by move " + move, x.choices(code(1, 0, place)), place == from ? 1 : 0);
            }
        }
    }

    private static void sharingParts() {
        about("Promise 4: sharing is 4 * sharedIs + sharedBecomes");
        for (int is = 0; is <= 3; is++) {
            for (int becomes = 0; becomes <= 3; becomes++) {
                SymmetricChecker x = new SymmetricChecker(1);
                int sharing = 4 * is + becomes;
                due("addRule(1, " + sharing + ", ..)", x.addRule(1, sharing, ROOM, 0), 1);
                for (int shared = 0; shared < 3; shared++) {
                    for (int next = 0; next < 3; next++) {
                        boolean can = (is == 3 || is == shared) && next == (becomes == 3 ? shared : becomes);
                        String call = "follows from " + shared + " to " + next + " by sharing " + sharing;
                        due(call, x.follows(code(shared, 0, 0), code(next, 0, 1)), can ? 1 : 0);
                    }
                }
            }
        }
    }

    /** Process 0 goes from 0 to 1 beside three others at one place. */
    private static void crowdingParts() {
        about("Promise 4: crowding is 4 * crowd + most");
        for (int crowd = 0; crowd <= 2; crowd++) {
            for (int most = 0; most <= 3; most++) {
                SymmetricChecker x = new SymmetricChecker(4);
                int crowding = 4 * crowd + most;
                due("addRule(1, 15, " + crowding + ", 0)", x.addRule(1, ANY, crowding, 0), 1);
                for (int place = 0; place < 3; place++) {
                    int got = x.follows(code(0, 4, 0, place, place, place), code(0, 4, 1, place, place, place));
                    String call = "follows beside three at " + place + " by crowding " + crowding;
                    due(call, got, place != crowd || most == 3 ? 1 : 0);
                }
            }
        }
    }

    private static void wrongMove() {
        about("Promise 4: -1 if move is not in 0 .. 8");
        SymmetricChecker x = new SymmetricChecker(2);
        for (int bad : new int[] {LOW, -9, -1, 9, 10, HIGH}) {
            due("addRule(" + bad + ", 0, 0, 0)", x.addRule(bad, 0, 0, 0), -1);
        }
        due("addRule(0, 0, 0, 0)", x.addRule(0, 0, 0, 0), 1);
        due("addRule(8, 0, 0, 0)", x.addRule(8, 0, 0, 0), 2);
    }

    private static void wrongSharing() {
        about("Promise 4: -2 if sharing is not in 0 .. 15");
        SymmetricChecker x = new SymmetricChecker(2);
        for (int bad : new int[] {LOW, -16, -1, 16, 17, HIGH}) {
            due("addRule(0, " + bad + ", 0, 0)", x.addRule(0, bad, 0, 0), -2);
        }
        due("addRule(0, 0, 0, 0)", x.addRule(0, 0, 0, 0), 1);
        due("addRule(0, 15, 0, 0)", x.addRule(0, 15, 0, 0), 2);
    }

    private static void wrongCrowding() {
        about("Promise 4: -3 if crowding is not in 0 .. 11");
        SymmetricChecker x = new SymmetricChecker(2);
        for (int bad : new int[] {LOW, -12, -1, 12, 13, 15, HIGH}) {
            due("addRule(0, 0, " + bad + ", 0)", x.addRule(0, 0, bad, 0), -3);
        }
        due("addRule(0, 0, 0, 0)", x.addRule(0, 0, 0, 0), 1);
        due("addRule(0, 0, 11, 0)", x.addRule(0, 0, 11, 0), 2);
    }

    private static void wrongToken() {
        about("Promise 4: -4 if token is not in 0 .. 4");
        SymmetricChecker x = new SymmetricChecker(2);
        for (int bad : new int[] {LOW, -5, -1, 5, 6, HIGH}) {
            due("addRule(0, 0, 0, " + bad + ")", x.addRule(0, 0, 0, bad), -4);
        }
        due("addRule(0, 0, 0, 0)", x.addRule(0, 0, 0, 0), 1);
        due("addRule(0, 0, 0, 4)", x.addRule(0, 0, 0, 4), 2);
    }

    private static void twelveRules() {
        about("Promise 4: -5 if the list holds 12 rules");
        SymmetricChecker x = new SymmetricChecker(1);
        for (int n = 1; n <= 11; n++) {
            x.addRule(8, ANY, ROOM, 0);
        }
        due("addRule to 11", x.addRule(1, ANY, ROOM, 0), 12);
        due("reachable() by the twelfth", x.reachable(), 2);
        due("addRule to 12", x.addRule(2, ANY, ROOM, 0), -5);
        due("addRule to 12 again", x.addRule(2, ANY, ROOM, 0), -5);
        due("reachable() without a thirteenth", x.reachable(), 2);
        due("dropRule(0) of 12", x.dropRule(0), 11);
        due("addRule to 11 again", x.addRule(2, ANY, ROOM, 0), 12);
        due("reachable() by the new twelfth", x.reachable(), 3);
        due("addRule to 12 once more", x.addRule(2, ANY, ROOM, 0), -5);
    }

    private static void rulesHeldNow() {
        about("Promise 4: otherwise answers how many it holds now");
        SymmetricChecker x = new SymmetricChecker(4);
        for (int n = 1; n <= 12; n++) {
            due("addRule as number " + n, x.addRule(1, ANY, ROOM, 0), n);
        }
        x.dropRule(3);
        x.dropRule(3);
        due("addRule after two drops", x.addRule(1, ANY, ROOM, 0), 11);
    }

    private static void droppedPosition() {
        about("Promise 5: Takes the rule at position i (0 for the first) out; later ones move down by one.");
        for (int i = 0; i < 12; i++) {
            SymmetricChecker x = new SymmetricChecker(1);
            for (int n = 0; n < 12; n++) {
                addRuleFor(x, n);
            }
            x.dropRule(i);
            dueRules(x, "dropRule(" + i + ")", 0, 12, i);
            for (int first = 0; first < 12; first++) {
                if (first != i) {
                    x.dropRule(0);
                    dueRules(x, "dropRule(" + i + ") and the first ones", first + 1, 12, i);
                }
            }
        }
        // Three rules that differ in their crowding: the second can be taken however many others are at 0.
        SymmetricChecker y = new SymmetricChecker(2);
        y.addRule(8, ANY, 0, 0);
        y.addRule(1, ANY, 3, 0);
        y.addRule(0, ANY, 8, 0);
        due("choices(54) before the first is dropped", y.choices(54), 4);
        y.dropRule(0);
        due("choices(54) after the first is dropped", y.choices(54), 4);
        due("follows(54, 55) after the first is dropped", y.follows(54, 55), 1);
    }

    private static void noSuchRule() {
        about("Promise 5: -1 if there is no such rule");
        SymmetricChecker x = new SymmetricChecker(2);
        for (int count = 0; count <= 12; count++) {
            for (int i : new int[] {LOW, -1, count, count + 1, 12, HIGH}) {
                due("dropRule(" + i + ") of " + count, x.dropRule(i), -1);
            }
            x.addRule(1, ANY, ROOM, 0);
        }
        x.dropRule(11);
        due("dropRule(11) of 11", x.dropRule(11), -1);
        due("dropRule(10) of 11", x.dropRule(10), 10);
    }

    private static void rulesLeft() {
        about("Promise 5: otherwise answers how many there are now");
        SymmetricChecker first = new SymmetricChecker(1);
        SymmetricChecker last = new SymmetricChecker(1);
        for (int n = 0; n < 12; n++) {
            first.addRule(1, ANY, ROOM, 0);
            last.addRule(1, ANY, ROOM, 0);
        }
        for (int left = 11; left >= 0; left--) {
            due("dropRule(0)", first.dropRule(0), left);
            due("dropRule(" + left + ")", last.dropRule(left), left);
        }
        due("reachable() with none left", first.reachable(), 1);
        due("addRule to none", first.addRule(1, ANY, ROOM, 0), 1);
    }

    private static void alarmAtTheEnd() {
        about("Promise 6: Puts an alarm at the end of the list.");
        SymmetricChecker x = line();
        for (int n = 0; n < 4; n++) {
            x.addAlarm(n % 3, 1, n / 3);
            due("badStates() by " + (n + 1) + " alarms", x.badStates(), 2 * (n + 1));
        }
    }

    private static void wrongPlace() {
        about("Promise 6: -1 if place is not in 0 .. 2");
        SymmetricChecker x = new SymmetricChecker(2);
        for (int bad : new int[] {LOW, -3, -1, 3, 4, HIGH}) {
            due("addAlarm(" + bad + ", 1, 0)", x.addAlarm(bad, 1, 0), -1);
        }
        due("addAlarm(0, 1, 0)", x.addAlarm(0, 1, 0), 1);
        due("addAlarm(2, 1, 0)", x.addAlarm(2, 1, 0), 2);
    }

    private static void wrongLeast() {
        about("Promise 6: -2 if least is not in 1 .. 4");
        for (int p = 1; p <= 4; p++) {
            SymmetricChecker x = new SymmetricChecker(p);
            for (int bad : new int[] {LOW, -4, -1, 0, 5, 6, HIGH}) {
                due("addAlarm(0, " + bad + ", 0)", x.addAlarm(0, bad, 0), -2);
            }
            due("addAlarm(0, 1, 0) for " + p, x.addAlarm(0, 1, 0), 1);
            due("addAlarm(0, 4, 0) for " + p, x.addAlarm(0, 4, 0), 2);
        }
    }

    private static void wrongShared() {
        about("Promise 6: -3 if shared is not in 0 .. 3");
        SymmetricChecker x = new SymmetricChecker(2);
        for (int bad : new int[] {LOW, -3, -1, 4, 5, HIGH}) {
            due("addAlarm(0, 1, " + bad + ")", x.addAlarm(0, 1, bad), -3);
        }
        due("addAlarm(0, 1, 0)", x.addAlarm(0, 1, 0), 1);
        due("addAlarm(0, 1, 3)", x.addAlarm(0, 1, 3), 2);
    }

    private static void fourAlarms() {
        about("Promise 6: -4 if there are 4 alarms");
        SymmetricChecker x = line();
        for (int n = 1; n <= 3; n++) {
            x.addAlarm(0, 4, 3);
        }
        due("addAlarm to 3", x.addAlarm(1, 1, 0), 4);
        due("badStates() by the fourth", x.badStates(), 2);
        due("addAlarm to 4", x.addAlarm(0, 1, 3), -4);
        due("addAlarm to 4 again", x.addAlarm(0, 1, 3), -4);
        due("badStates() without a fifth", x.badStates(), 2);
        x.clearAlarms();
        due("addAlarm to none", x.addAlarm(0, 1, 3), 1);
    }

    private static void alarmsNow() {
        about("Promise 6: otherwise answers how many there are now");
        SymmetricChecker x = new SymmetricChecker(1);
        for (int round = 0; round < 3; round++) {
            for (int n = 1; n <= 4; n++) {
                due("addAlarm as number " + n, x.addAlarm(2, 4, 3), n);
            }
            x.clearAlarms();
        }
    }

    private static void clearAlarms() {
        about("Promise 7: Takes all alarms out; answers how many there were.");
        SymmetricChecker x = line();
        for (int count = 0; count <= 4; count++) {
            for (int n = 0; n < count; n++) {
                x.addAlarm(0, 1, 3);
            }
            due("badStates() by " + count, x.badStates(), count == 0 ? 0 : 6);
            due("clearAlarms() of " + count, x.clearAlarms(), count);
            due("badStates() by none", x.badStates(), 0);
            due("violation() by none", x.violation(), -1);
            due("clearAlarms() of none", x.clearAlarms(), 0);
        }
        due("rules() afterwards", x.rules(), 5);
        due("reachable() afterwards", x.reachable(), 18);
    }

    private static void rules() {
        about("Promise 8: How many rules there are.");
        SymmetricChecker x = new SymmetricChecker(1);
        for (int n = 0; n < 12; n++) {
            due("rules() before number " + n, x.rules(), n);
            x.addRule(1, ANY, ROOM, 0);
        }
        due("rules() of a full list", x.rules(), 12);
        x.addRule(1, ANY, ROOM, 0);
        due("rules() after a refused rule", x.rules(), 12);
        for (int left = 11; left >= 0; left--) {
            x.dropRule(0);
            due("rules() after a drop", x.rules(), left);
        }
        x.dropRule(0);
        due("rules() after a refused drop", x.rules(), 0);
    }

    private static void reachable() {
        about("Promise 9: How many states are reachable.");
        for (int p = 1; p <= 4; p++) {
            due("reachable() without rules", new SymmetricChecker(p).reachable(), 1);
            due("reachable() by a step in place", withRule(p, 0, ANY, ROOM, 0).reachable(), 1);
            due("reachable() of all states", allStates(p).reachable(), LIMITS[p]);
        }
    }

    private static void depth() {
        about("Promise 10: The depth of the state with this code");
        SymmetricChecker x = line();
        due("depth(9), the start", x.depth(9), 0);
        due("depth(17)", x.depth(17), 8);
        due("depth(0)", x.depth(0), 9);
        due("depth(8), the end of the line", x.depth(8), 17);
    }

    private static void depthOfNoCode() {
        about("Promise 10: -1 if code is not in 0 .. limit()-1");
        for (int p = 1; p <= 4; p++) {
            SymmetricChecker x = allStates(p);
            for (int bad : new int[] {LOW, -LIMITS[p], -1, LIMITS[p], LIMITS[p] + 1, 1215, HIGH}) {
                due("depth(" + bad + ") for " + p, x.depth(bad), -1);
            }
            due("depth(0) for " + p, x.depth(0), 1);
            due("depth(limit() - 1) for " + p, x.depth(LIMITS[p] - 1), p + 2);
        }
    }

    private static void depthOfUnreachable() {
        about("Promise 10: -2 if the state is not reachable");
        for (int p = 1; p <= 4; p++) {
            SymmetricChecker x = new SymmetricChecker(p);
            for (int code : new int[] {0, 1, start(p) - 1, start(p) + 1, LIMITS[p] - 1}) {
                due("depth(" + code + ") for " + p, x.depth(code), -2);
            }
            due("depth(start) for " + p, x.depth(start(p)), 0);
        }
        SymmetricChecker y = line();
        y.dropRule(0);
        due("depth(10), no longer reachable", y.depth(10), -2);
        due("depth(9) all the same", y.depth(9), 0);
    }

    private static void radius() {
        about("Promise 11: The greatest depth of a reachable state.");
        for (int p = 1; p <= 4; p++) {
            due("radius() of the start alone", new SymmetricChecker(p).radius(), 0);
            due("radius() of walkers", walkers(p).radius(), 2 * p);
        }
        SymmetricChecker x = line();
        due("radius() of a line of 18", x.radius(), 17);
        x.dropRule(4);
        due("radius() of a line of 9", x.radius(), 8);
    }

    private static void layer() {
        about("Promise 12: How many states have this depth");
        SymmetricChecker x = line();
        for (int depth = 0; depth <= 17; depth++) {
            due("layer(" + depth + ")", x.layer(depth), 1);
        }
        SymmetricChecker y = walkers(4);
        int[] counts = {1, 4, 10, 16, 19, 16, 10, 4, 1};
        for (int depth = 0; depth <= 8; depth++) {
            due("layer(" + depth + ") of walkers", y.layer(depth), counts[depth]);
        }
    }

    private static void layerOfNone() {
        about("Promise 12: (any int; 0 for those that no state has)");
        for (int p = 1; p <= 4; p++) {
            for (int depth : new int[] {LOW, -3, -2, -1, 1, 2, 18, 1214, 1215, HIGH}) {
                due("layer(" + depth + ") of the start alone", new SymmetricChecker(p).layer(depth), 0);
            }
            for (int depth : new int[] {LOW, -3, -2, -1, 2 * p + 1, 1214, 1215, HIGH}) {
                due("layer(" + depth + ") of walkers", walkers(p).layer(depth), 0);
            }
        }
    }

    private static void badStates() {
        about("Promise 13: How many reachable states are bad.");
        SymmetricChecker x = new SymmetricChecker(4);
        due("badStates() without alarms", x.badStates(), 0);
        x.addAlarm(2, 1, 3);
        due("badStates() where no bad one is reachable", x.badStates(), 0);
        x.addAlarm(0, 4, 0);
        due("badStates() of the start alone", x.badStates(), 1);
        SymmetricChecker y = allStates(4);
        for (int place = 0; place < 3; place++) {
            y.addAlarm(place, 1, 3);
        }
        due("badStates() where all are bad", y.badStates(), 1215);
        y.dropRule(5);
        due("badStates() where fewer are reachable", y.badStates(), 243);
    }

    private static void violation() {
        about("Promise 14: The least depth of a reachable bad state");
        SymmetricChecker x = line();
        x.addAlarm(0, 1, 0);
        due("violation() of the start", x.violation(), 0);
        x.clearAlarms();
        x.addAlarm(2, 1, 2);
        due("violation() where a deeper one has a lesser code", x.violation(), 8);
        x.addAlarm(0, 1, 1);
        due("violation() by a later alarm", x.violation(), 3);
        SymmetricChecker y = walkers(4);
        y.addAlarm(2, 4, 0);
        due("violation() of the deepest state", y.violation(), 8);
    }

    private static void noViolation() {
        about("Promise 14: -1 if there is none");
        SymmetricChecker x = line();
        due("violation() without alarms", x.violation(), -1);
        x.addAlarm(0, 2, 3);
        due("violation() by more than there are processes", x.violation(), -1);
        x.dropRule(1);
        x.addAlarm(2, 1, 3);
        due("violation() where no bad one is reachable", x.violation(), -1);
        x.addRule(5, ANY, ROOM, 0);
        due("violation() where one is again", x.violation(), 2);
        x.clearAlarms();
        due("violation() without alarms again", x.violation(), -1);
    }

    private static void stuckStates() {
        about("Promise 15: How many reachable states there are that no state follows");
        for (int p = 1; p <= 4; p++) {
            due("stuckStates() without rules", new SymmetricChecker(p).stuckStates(), 1);
            due("stuckStates() by a step in place", withRule(p, 0, ANY, ROOM, 0).stuckStates(), 0);
            due("stuckStates() where only unreachable ones go on", withRule(p, 8, ANY, ROOM, 0).stuckStates(), 1);
            due("stuckStates() of walkers", walkers(p).stuckStates(), 1);
            due("stuckStates() after one step each", withRule(p, 1, ANY, ROOM, 1).stuckStates(), p);
            due("stuckStates() of all states", allStates(p).stuckStates(), 0);
        }
    }

    private static void choices() {
        about("Promise 16: How many pairs (p, i) there are");
        for (int p = 1; p <= 4; p++) {
            SymmetricChecker x = new SymmetricChecker(p);
            due("choices(start) without rules", x.choices(start(p)), 0);
            for (int n = 1; n <= 12; n++) {
                x.addRule(0, ANY, ROOM, 0);
                due("choices(start) by " + n + " equal rules", x.choices(start(p)), n * p);
            }
            x.dropRule(11);
            due("choices(start) after a drop", x.choices(start(p)), 11 * p);
        }
    }

    private static void choicesOfNoCode() {
        about("Promise 16: -1 if code is not in 0 .. limit()-1");
        for (int p = 1; p <= 4; p++) {
            SymmetricChecker x = allStates(p);
            for (int bad : new int[] {LOW, -LIMITS[p], -1, LIMITS[p], LIMITS[p] + 1, 1215, HIGH}) {
                due("choices(" + bad + ") for " + p, x.choices(bad), -1);
            }
            // At code 0 all are at 0 with shared 0: 0 -> 1, 0 -> 2 and 0 -> 0 for each; none can take the token.
            due("choices(0) for " + p, x.choices(0), 3 * p);
            due("choices(limit() - 1) for " + p, x.choices(LIMITS[p] - 1), p);
        }
    }

    private static void choicesOfUnreachable() {
        about("Promise 16: The state need not be reachable.");
        SymmetricChecker x = withRule(4, 8, 10, ROOM, 3);
        due("depth of all at 2 with the token at 3", x.depth(code(2, 3, 2, 2, 2, 2)), -2);
        due("choices of it", x.choices(code(2, 3, 2, 2, 2, 2)), 1);
        SymmetricChecker y = withRule(1, 3, ANY, ROOM, 0);
        due("depth(10)", y.depth(10), -2);
        due("choices(10)", y.choices(10), 1);
        due("choices(1)", y.choices(1), 1);
    }

    private static void follows() {
        about("Promise 17: 1 if the state with code next follows the state with this code, otherwise 0");
        SymmetricChecker x = line();
        for (int code = 0; code < 18; code++) {
            int next = code == 17 ? 0 : code == 8 ? -1 : code + 1;
            for (int t = 0; t < 18; t++) {
                due("follows(" + code + ", " + t + ")", x.follows(code, t), t == next ? 1 : 0);
            }
        }
        SymmetricChecker y = new SymmetricChecker(2);
        due("follows(start, start) without rules", y.follows(54, 54), 0);
        y.addRule(0, ANY, ROOM, 0);
        y.addRule(0, ANY, ROOM, 0);
        due("follows(start, start) by four pairs", y.follows(54, 54), 1);
    }

    private static void followsOfNoCode() {
        about("Promise 17: -1 if one of the codes is not in 0 .. limit()-1");
        for (int p = 1; p <= 4; p++) {
            SymmetricChecker x = allStates(p);
            int last = LIMITS[p] - 1;
            for (int bad : new int[] {LOW, -LIMITS[p], -1, LIMITS[p], LIMITS[p] + 1, 1215, HIGH}) {
                due("follows(" + bad + ", 0) for " + p, x.follows(bad, 0), -1);
                due("follows(0, " + bad + ") for " + p, x.follows(0, bad), -1);
                due("follows(" + last + ", " + bad + ") for " + p, x.follows(last, bad), -1);
                due("follows(" + bad + ", " + bad + ") for " + p, x.follows(bad, bad), -1);
            }
            due("follows(0, 1) for " + p, x.follows(0, 1), 1);
            due("follows(1, 0) for " + p, x.follows(1, 0), 0);
            due("follows(limit() - 1, 0) for " + p, x.follows(last, 0), 0);
            due("follows(limit() - 1, limit() - 3) for " + p, x.follows(last, last - 2), 1);
            due("follows(0, limit() - 1) for " + p, x.follows(0, last), 0);
        }
    }

    private static void followsOfUnreachable() {
        about("Promise 17: The states need not be reachable.");
        SymmetricChecker x = withRule(1, 6, 9, ROOM, 2);
        due("depth(8)", x.depth(8), -2);
        due("depth(12)", x.depth(12), -2);
        due("follows(8, 12), both unreachable", x.follows(8, 12), 1);
        SymmetricChecker y = withRule(1, 3, ANY, ROOM, 0);
        due("depth(10)", y.depth(10), -2);
        due("follows(10, 9), from an unreachable one to the start", y.follows(10, 9), 1);
        due("follows(9, 10)", y.follows(9, 10), 0);
    }

    private static void traceEnd() {
        about("Promise 18: The state at depth d of the trace is the bad state of depth d with the least code.");
        for (int p = 1; p <= 4; p++) {
            SymmetricChecker x = new SymmetricChecker(p);
            x.addAlarm(0, p, 3);
            dueTrace(x, start(p));
            x.clearAlarms();
            x.addAlarm(1, 1, 3);
            x.addRule(1, ANY, ROOM, 0);
            dueTrace(x, start(p), start(p) + 1);
            // Process 0 with the token has the least code of all states of depth 1.
            x.addRule(1, ANY, ROOM, 1);
            dueTrace(x, start(p), 1);
        }
        SymmetricChecker y = new SymmetricChecker(1);
        y.addRule(1, ANY, ROOM, 0);
        y.addRule(4, ANY, ROOM, 1);
        y.addAlarm(1, 1, 3);
        due("depth(1), a deeper bad state with a lesser code", y.depth(1), 2);
        dueTrace(y, 9, 10);
    }

    private static void traceBefore() {
        about("Promise 18: The state at depth i < d of the trace is the state of depth i with the least code "
                + "among those that the trace's state at depth i + 1 follows.");
        SymmetricChecker x = line();
        x.addAlarm(2, 1, 2);
        dueTrace(x, 9, 10, 11, 12, 13, 14, 15, 16, 17);
        SymmetricChecker least = walkers(2);
        least.addAlarm(1, 2, 3);
        dueTrace(least, 54, 55, 58);
        // 10 is the least code of depth 1, but 17 follows 15 alone.
        SymmetricChecker side = new SymmetricChecker(1);
        side.addRule(1, 0, ROOM, 0);
        side.addRule(0, 2, ROOM, 0);
        side.addRule(2, 10, ROOM, 0);
        side.addAlarm(2, 1, 3);
        due("depth(10)", side.depth(10), 1);
        dueTrace(side, 9, 15, 17);
        // 11 follows 1 as well as 10, but 1 has depth 2.
        SymmetricChecker deep = new SymmetricChecker(1);
        deep.addRule(1, ANY, ROOM, 0);
        deep.addRule(4, ANY, ROOM, 1);
        deep.addRule(5, ANY, ROOM, 2);
        deep.addRule(5, ANY, ROOM, 4);
        deep.addAlarm(2, 1, 3);
        due("depth(1)", deep.depth(1), 2);
        due("follows(1, 11)", deep.follows(1, 11), 1);
        dueTrace(deep, 9, 10, 11);
        SymmetricChecker zero = new SymmetricChecker(1);
        zero.addRule(0, ANY, ROOM, 1);
        zero.addRule(1, ANY, ROOM, 3);
        zero.addAlarm(1, 1, 3);
        dueTrace(zero, 9, 0, 1);
    }

    private static void noTrace() {
        about("Promise 18: -1 if there is no reachable bad state");
        SymmetricChecker x = line();
        dueNoTrace(x, "without alarms");
        x.addAlarm(1, 2, 3);
        dueNoTrace(x, "by more than there are processes");
        x.dropRule(1);
        x.addAlarm(2, 1, 3);
        dueNoTrace(x, "where no bad state is reachable");
        x.addAlarm(1, 1, 3);
        dueTrace(x, 9, 10);
        x.clearAlarms();
        dueNoTrace(x, "without alarms again");
    }

    private static void dueNoTrace(SymmetricChecker x, String why) {
        for (int i : new int[] {LOW, -2, -1, 0, 1, 17, 18, HIGH}) {
            due("trace(" + i + ") " + why, x.trace(i), -1);
        }
    }

    private static void noSuchDepth() {
        about("Promise 18: -2 if i is not in 0 .. d");
        for (int d = 0; d <= 8; d++) {
            SymmetricChecker x = line();
            x.addAlarm(d % 3, 1, d / 3);
            for (int i : new int[] {LOW, -2, -1, d + 1, d + 2, 17, 18, HIGH}) {
                due("trace(" + i + ") where d is " + d, x.trace(i), -2);
            }
            due("trace(0) where d is " + d, x.trace(0), 9);
            due("trace(d) where d is " + d, x.trace(d), 9 + d);
        }
    }

    private static void endless() {
        about("Promise 19: How many reachable states there are from which walks of every length start");
        for (int p = 1; p <= 4; p++) {
            due("endless() without rules", new SymmetricChecker(p).endless(), 0);
            due("endless() of a step in place", withRule(p, 0, ANY, ROOM, 0).endless(), 1);
            due("endless() of one out of reach", withRule(p, 8, ANY, ROOM, 0).endless(), 0);
            due("endless() of all states", allStates(p).endless(), LIMITS[p]);
        }
        SymmetricChecker x = withRule(1, 1, ANY, ROOM, 0);
        x.addRule(2, ANY, ROOM, 0);
        due("endless() with two dead ends", x.endless(), 0);
        x.addRule(8, ANY, ROOM, 0);
        due("endless() with one dead end", x.endless(), 2);
        x.addRule(3, ANY, ROOM, 0);
        due("endless() without a dead end", x.endless(), 3);
    }

    private static void everyLength() {
        about("Promise 19: for every k >= 1 there are states s(1), .., s(k), where s(1) follows s and every other "
                + "one follows the one before it");
        SymmetricChecker x = line();
        due("endless() where walks of length 17 start", x.endless(), 0);
        x.addRule(6, 8, ROOM, 2);
        due("endless() of a round of 18", x.endless(), 18);
        x.dropRule(5);
        due("endless() of a line again", x.endless(), 0);
        x.addRule(8, 10, ROOM, 3);
        due("endless() of a line that ends with a step in place", x.endless(), 18);
        x.dropRule(5);
        x.addRule(0, 0, ROOM, 4);
        due("endless() of a line that starts with a step in place", x.endless(), 1);
        // Each of four goes 0 -> 1 -> 2 and may go back as long as the shared value can grow.
        SymmetricChecker y = walkers(4);
        y.addRule(6, 1, ROOM, 0);
        y.addRule(6, 6, ROOM, 0);
        due("reachable() where walks of length 14 start", y.reachable(), 243);
        due("endless() where walks of length 14 start", y.endless(), 0);
        deadEndAmongEqualDepths(1, 2, 7);
        deadEndAmongEqualDepths(2, 1, 7);
        deadEndAmongEqualDepths(1, 2, 5);
        deadEndAmongEqualDepths(2, 1, 5);
    }

    /** From the start to both others, and from one of them to the other: no walk is longer than 2. */
    private static void deadEndAmongEqualDepths(int first, int second, int last) {
        SymmetricChecker x = new SymmetricChecker(1);
        x.addRule(first, ANY, ROOM, 0);
        x.addRule(second, ANY, ROOM, 0);
        x.addRule(last, ANY, ROOM, 0);
        due("reachable() before a dead end", x.reachable(), 3);
        due("radius() before a dead end", x.radius(), 1);
        due("endless() before a dead end", x.endless(), 0);
    }
}
