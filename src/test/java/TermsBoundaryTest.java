import java.util.ArrayList;
import java.util.List;
import java.util.function.ToIntFunction;

/**
 * A test for each sentence of "What it is" and "Terms" that names a boundary case. The words of the
 * sentence stand first in its test, and before each wrong answer in what is printed.
 */
public final class TermsBoundaryTest extends Answers {
    public static void main(String[] args) {
        test(TermsBoundaryTest::fiveHundredAndTwelveCalls);
        test(TermsBoundaryTest::processNumbers);
        test(TermsBoundaryTest::codeOfAState);
        test(TermsBoundaryTest::holders);
        test(TermsBoundaryTest::codes);
        test(TermsBoundaryTest::startState);
        test(TermsBoundaryTest::allOfTheseHold);
        test(TermsBoundaryTest::placeIsFrom);
        test(TermsBoundaryTest::sharedIs);
        test(TermsBoundaryTest::sharedBecomes);
        test(TermsBoundaryTest::atMostMost);
        test(TermsBoundaryTest::otherProcesses);
        test(TermsBoundaryTest::tokenTake);
        test(TermsBoundaryTest::tokenDropAndHave);
        test(TermsBoundaryTest::tokenNotHave);
        test(TermsBoundaryTest::tokenZero);
        test(TermsBoundaryTest::placeBecomesTo);
        test(TermsBoundaryTest::holderAfterwards);
        test(TermsBoundaryTest::allElseStays);
        test(TermsBoundaryTest::someProcessAndSomeRule);
        test(TermsBoundaryTest::followsItself);
        test(TermsBoundaryTest::zeroSteps);
        test(TermsBoundaryTest::moreSteps);
        test(TermsBoundaryTest::leastSteps);
        test(TermsBoundaryTest::ifThereIsSuchADepth);
        test(TermsBoundaryTest::atLeastLeast);
        test(TermsBoundaryTest::alarmShared);
        test(TermsBoundaryTest::someAlarm);
        test(TermsBoundaryTest::questionsChangeNothing);
        test(TermsBoundaryTest::refusedCallsChangeNothing);
        test(TermsBoundaryTest::orderOfTests);
        end();
    }

    private static void fiveHundredAndTwelveCalls() {
        about("An object is used for at most 512 calls after it has been made");
        SymmetricChecker x = new SymmetricChecker(4);
        for (int n = 0; n < 256; n++) {
            due("addRule after " + 2 * n + " calls", x.addRule(1, ANY, ROOM, 0), 1);
            due("dropRule after " + (2 * n + 1) + " calls", x.dropRule(0), 0);
        }
        SymmetricChecker y = new SymmetricChecker(1);
        int[] round = {1, 2, 3, 4, -4, 4};
        for (int n = 0; n < 512; n++) {
            int got = n % 6 == 5 ? y.clearAlarms() : y.addAlarm(0, 1, 3);
            due("addAlarm or clearAlarms after " + n + " calls", got, round[n % 6]);
        }
        SymmetricChecker z = line();
        z.addAlarm(2, 1, 2);
        for (int n = 6; n < 512; n++) {
            due("trace(8) after " + n + " calls", z.trace(8), 17);
        }
    }

    /** Only the process that has the number p can move, since only it is at 0. */
    private static void processNumbers() {
        about("There are P processes, numbered 0 .. P-1.");
        for (int p = 1; p <= 4; p++) {
            SymmetricChecker x = withRule(p, 1, ANY, ROOM, 0);
            due("layer(1) of " + p, x.layer(1), p);
            for (int q = 0; q < p; q++) {
                int[] places = places(p, 2);
                places[q] = 0;
                int before = code(0, p, places);
                places[q] = 1;
                due("choices before process " + q + " of " + p, x.choices(before), 1);
                due("follows by process " + q + " of " + p, x.follows(before, code(0, p, places)), 1);
            }
        }
    }

    private static int[] places(int processes, int place) {
        int[] places = new int[processes];
        for (int q = 0; q < processes; q++) {
            places[q] = place;
        }
        return places;
    }

    /** The one that goes from 0 to 2 takes the token and makes the shared value 1. */
    private static void codeOfAState() {
        about("place(0) + 3 * place(1) + .. + 3^(P-1) * place(P-1) + 3^P * shared + 3^(P+1) * holder");
        int[][] after = {{5}, {11, 42}, {29, 114, 207}, {83, 330, 585, 864}};
        for (int p = 1; p <= 4; p++) {
            SymmetricChecker x = withRule(p, 2, 1, ROOM, 1);
            for (int q = 0; q < p; q++) {
                int code = after[p - 1][q];
                due("depth(" + code + ") for process " + q + " of " + p, x.depth(code), 1);
                due("follows(start, " + code + ") by process " + q + " of " + p, x.follows(start(p), code), 1);
            }
        }
    }

    private static void holders() {
        about("holder is the number of the process that holds the token, and P for none");
        for (int p = 1; p <= 4; p++) {
            SymmetricChecker x = withRule(p, 0, ANY, ROOM, 1);
            int unit = LIMITS[p] / (p + 1);
            due("reachable() of " + p, x.reachable(), p + 1);
            for (int holder = 0; holder < p; holder++) {
                due("depth with holder " + holder + " of " + p, x.depth(unit * holder), 1);
            }
            due("depth with no holder of " + p, x.depth(unit * p), 0);
        }
    }

    private static void codes() {
        about("Codes are 0 .. limit()-1 with limit() = 3^(P+1) * (P+1).");
        for (int p = 1; p <= 4; p++) {
            SymmetricChecker first = withRule(p, 0, 0, ROOM, 3);
            due("choices(0) by process 0, which has the token", first.choices(0), 1);
            due("choices(-1)", first.choices(-1), -1);
            SymmetricChecker last = withRule(p, 8, 10, 3, 1);
            due("choices(limit() - 1) by all at 2", last.choices(LIMITS[p] - 1), p);
            due("choices(limit())", last.choices(LIMITS[p]), -1);
            due("reachable() of all codes", allStates(p).reachable(), LIMITS[p]);
        }
    }

    private static void startState() {
        about("In the START STATE all places are 0, the shared value is 0, and no process holds the token.");
        int[] starts = {0, 9, 54, 243, 972};
        for (int p = 1; p <= 4; p++) {
            SymmetricChecker x = new SymmetricChecker(p);
            due("reachable() of " + p, x.reachable(), 1);
            due("depth(" + starts[p] + ") of " + p, x.depth(starts[p]), 0);
            due("reachable() by a rule for place 1", withRule(p, 3, ANY, ROOM, 0).reachable(), 1);
            due("reachable() by a rule for place 2", withRule(p, 6, ANY, ROOM, 0).reachable(), 1);
            due("reachable() by a rule for shared 1", withRule(p, 0, 4, ROOM, 0).reachable(), 1);
            due("reachable() by a rule for shared 2", withRule(p, 0, 8, ROOM, 0).reachable(), 1);
            due("reachable() by a rule that drops", withRule(p, 1, ANY, ROOM, 2).reachable(), 1);
            due("reachable() by a rule for who has it", withRule(p, 1, ANY, ROOM, 3).reachable(), 1);
            due("layer(1) by a rule that takes", withRule(p, 1, 0, ROOM, 1).layer(1), p);
        }
    }

    private static void allOfTheseHold() {
        about("A process p can TAKE a rule in a state if all of these hold");
        SymmetricChecker x = withRule(2, 1, 7, 8, 3);
        due("choices where all hold", x.choices(code(1, 0, 0, 1)), 1);
        due("choices with another place", x.choices(code(1, 0, 1, 1)), 0);
        due("choices with a shared value too small", x.choices(code(0, 0, 0, 1)), 0);
        due("choices with a shared value too large", x.choices(code(2, 0, 0, 1)), 0);
        due("choices with one too many at 2", x.choices(code(1, 0, 0, 2)), 0);
        due("choices where the other has the token", x.choices(code(1, 1, 0, 1)), 0);
        due("choices where none has the token", x.choices(code(1, 2, 0, 1)), 0);
    }

    private static void placeIsFrom() {
        about("place(p) is from");
        for (int from = 0; from < 3; from++) {
            SymmetricChecker x = withRule(4, 4 * from, ANY, ROOM, 0);
            for (int n = 0; n <= 4; n++) {
                int[] places = places(4, (from + 1) % 3);
                for (int q = 4 - n; q < 4; q++) {
                    places[q] = from;
                }
                due("choices of " + n + " at " + from, x.choices(code(0, 4, places)), n);
                due("choices of " + n + " at " + from + " and shared 2", x.choices(code(2, 0, places)), n);
            }
        }
    }

    private static void sharedIs() {
        about("the shared value is sharedIs, or sharedIs is 3");
        for (int is = 0; is <= 3; is++) {
            SymmetricChecker x = withRule(2, 1, 4 * is + 3, ROOM, 0);
            for (int shared = 0; shared < 3; shared++) {
                int want = is == 3 || is == shared ? 2 : 0;
                due("choices of " + shared + " by sharedIs " + is, x.choices(code(shared, 2, 0, 0)), want);
            }
        }
    }

    private static void sharedBecomes() {
        about("the shared value becomes sharedBecomes unless that is 3");
        for (int becomes = 0; becomes <= 3; becomes++) {
            SymmetricChecker x = withRule(1, 1, 12 + becomes, ROOM, 0);
            for (int shared = 0; shared < 3; shared++) {
                for (int next = 0; next < 3; next++) {
                    String call = "follows from " + shared + " to " + next + " by sharedBecomes " + becomes;
                    int want = next == (becomes == 3 ? shared : becomes) ? 1 : 0;
                    due(call, x.follows(code(shared, 1, 0), code(next, 1, 1)), want);
                }
            }
        }
    }

    /** Process 0 alone changes its place, so that the steps of the others do not matter. */
    private static void atMostMost() {
        about("at most most of the OTHER processes have the place crowd");
        for (int from = 0; from < 3; from++) {
            int to = (from + 1) % 3;
            for (int crowding = 0; crowding < 12; crowding++) {
                SymmetricChecker x = withRule(4, 3 * from + to, ANY, crowding, 0);
                int crowd = crowding / 4;
                int most = crowding % 4;
                for (int others = 0; others <= 3; others++) {
                    int[] places = places(4, crowd == 0 ? 1 : 0);
                    for (int q = 1; q <= others; q++) {
                        places[q] = crowd;
                    }
                    places[0] = from;
                    int before = code(1, 4, places);
                    places[0] = to;
                    String call = "follows from " + from + " with " + others + " others at " + crowd + " and most " + most;
                    due(call, x.follows(before, code(1, 4, places)), others <= most ? 1 : 0);
                }
            }
        }
    }

    private static void otherProcesses() {
        about("the OTHER processes");
        for (int place = 0; place < 3; place++) {
            int other = (place + 1) % 3;
            due("choices of one alone at the crowd's place",
                    withRule(1, 4 * place, ANY, 4 * place, 0).choices(code(0, 1, place)), 1);
            SymmetricChecker x = withRule(2, 4 * place, ANY, 4 * place, 0);
            due("choices of one of two at the crowd's place", x.choices(code(0, 2, place, other)), 1);
            due("choices of two at the crowd's place", x.choices(code(0, 2, place, place)), 0);
            SymmetricChecker beside = withRule(2, 4 * other, ANY, 4 * place, 0);
            due("choices of one beside the crowd's place", beside.choices(code(0, 2, place, other)), 0);
            due("choices of two beside the crowd's place", beside.choices(code(0, 2, other, other)), 2);
            SymmetricChecker y = withRule(4, 4 * place, ANY, 4 * place + 3, 0);
            due("choices of four at the crowd's place", y.choices(code(0, 4, places(4, place))), 4);
            SymmetricChecker z = withRule(4, 4 * place, ANY, 4 * place + 2, 0);
            due("choices of four where one is too many", z.choices(code(0, 4, places(4, place))), 0);
        }
    }

    private static void tokenTake() {
        about("for token 1 (take it): no process holds the token");
        dueToken(1, new int[][] {{0, 0, 0, 1}, {0, 0, 0, 1}, {0, 0, 0, 1}});
    }

    private static void tokenDropAndHave() {
        about("for token 2 (drop it) and token 3 (have it): p holds the token");
        dueToken(2, new int[][] {{1, 0, 0, 0}, {0, 1, 0, 0}, {0, 0, 1, 0}});
        dueToken(3, new int[][] {{1, 0, 0, 0}, {0, 1, 0, 0}, {0, 0, 1, 0}});
    }

    private static void tokenNotHave() {
        about("for token 4 (not have it): p does not hold the token");
        dueToken(4, new int[][] {{0, 1, 1, 1}, {1, 0, 1, 1}, {1, 1, 0, 1}});
    }

    private static void tokenZero() {
        about("for token 0 nothing is asked");
        dueToken(0, new int[][] {{1, 1, 1, 1}, {1, 1, 1, 1}, {1, 1, 1, 1}});
    }

    /** What is due for each of three processes, which alone is at 0, and each holder. */
    private static void dueToken(int token, int[][] can) {
        SymmetricChecker x = withRule(3, 1, ANY, ROOM, token);
        for (int q = 0; q < 3; q++) {
            int[] places = places(3, 2);
            places[q] = 0;
            for (int holder = 0; holder <= 3; holder++) {
                String call = "choices of process " + q + " by token " + token + " with holder " + holder;
                due(call, x.choices(code(0, holder, places)), can[q][holder]);
            }
        }
    }

    private static void placeBecomesTo() {
        about("place(p) becomes to");
        for (int move = 0; move <= 8; move++) {
            SymmetricChecker x = withRule(1, move, ANY, ROOM, 0);
            for (int place = 0; place < 3; place++) {
                for (int next = 0; next < 3; next++) {
                    String call = "follows from " + place + " to " + next + " by move " + move;
                    int want = place == move / 3 && next == move % 3 ? 1 : 0;
                    due(call, x.follows(code(0, 1, place), code(0, 1, next)), want);
                }
            }
        }
    }

    private static void holderAfterwards() {
        about("for token 1, p now holds the token; for token 2 no process holds it; otherwise the holder stays");
        for (int token = 0; token <= 4; token++) {
            SymmetricChecker x = withRule(3, 1, ANY, ROOM, token);
            for (int mover = 0; mover < 3; mover++) {
                for (int holder = 0; holder <= 3; holder++) {
                    dueHolder(x, token, mover, holder);
                }
            }
        }
    }

    /** The mover is the one at 0, and the holder 3 is none; -1 stands for a rule that cannot be taken. */
    private static void dueHolder(SymmetricChecker x, int token, int mover, int holder) {
        int[] whenItHolds = {holder, -1, 3, holder, -1};
        int[] whenNoneHolds = {holder, mover, -1, -1, holder};
        int[] whenAnotherHolds = {holder, -1, -1, -1, holder};
        int[] after = holder == mover ? whenItHolds : holder == 3 ? whenNoneHolds : whenAnotherHolds;
        int[] places = places(3, 2);
        places[mover] = 0;
        int before = code(1, holder, places);
        places[mover] = 1;
        for (int next = 0; next <= 3; next++) {
            String call = "follows by token " + token + " and process " + mover + " from holder " + holder + " to " + next;
            due(call, x.follows(before, code(1, next, places)), after[token] == next ? 1 : 0);
        }
    }

    /** Process 1 of two moves from and to every place: no other digit of the code may carry or borrow. */
    private static void allElseStays() {
        about("All else stays.");
        for (int move = 0; move <= 8; move++) {
            SymmetricChecker x = withRule(2, move, ANY, ROOM, 0);
            int beside = (move / 3 + 1) % 3;
            int before = code(1, 1, beside, move / 3);
            for (int next = 0; next < 81; next++) {
                int want = next == code(1, 1, beside, move % 3) ? 1 : 0;
                due("follows(" + before + ", " + next + ") by move " + move, x.follows(before, next), want);
            }
        }
    }

    private static void someProcessAndSomeRule() {
        about("if some process can take some rule of the list in s and that makes t");
        SymmetricChecker x = new SymmetricChecker(4);
        int before = code(0, 4, 1, 1, 1, 0);
        int after = code(0, 4, 1, 1, 1, 2);
        due("follows by an empty list", x.follows(before, after), 0);
        for (int n = 0; n < 11; n++) {
            x.addRule(8, ANY, ROOM, 0);
        }
        due("follows by eleven rules for others", x.follows(before, after), 0);
        x.addRule(2, ANY, ROOM, 0);
        due("follows by the last rule and the last process", x.follows(before, after), 1);
        for (int n = 0; n < 11; n++) {
            x.dropRule(0);
        }
        due("follows by the one rule left", x.follows(before, after), 1);
        x.dropRule(0);
        due("follows by a list that is empty again", x.follows(before, after), 0);
    }

    private static void followsItself() {
        about("(t may be s itself)");
        for (int p = 1; p <= 4; p++) {
            SymmetricChecker x = withRule(p, 0, 0, ROOM, 0);
            due("follows(start, start)", x.follows(start(p), start(p)), 1);
            due("reachable()", x.reachable(), 1);
            due("stuckStates()", x.stuckStates(), 0);
            due("endless()", x.endless(), 1);
        }
        SymmetricChecker y = withRule(1, 8, 10, ROOM, 3);
        due("follows(8, 8), which has the token", y.follows(8, 8), 1);
        due("follows(17, 17), which has not", y.follows(17, 17), 0);
    }

    private static void zeroSteps() {
        about("A state is REACHABLE IN d STEPS if d = 0 and it is the start state");
        SymmetricChecker x = line();
        x.addRule(6, 8, ROOM, 2);
        due("follows(8, 9), back to the start", x.follows(8, 9), 1);
        due("depth(9)", x.depth(9), 0);
        due("layer(0)", x.layer(0), 1);
        due("layer(18)", x.layer(18), 0);
        due("radius()", x.radius(), 17);
    }

    /** A step for each place that is not 0, one or two for the shared value, one for taking the token. */
    private static void moreSteps() {
        about("or d > 0 and it follows a state reachable in d-1 steps");
        for (int p = 1; p <= 4; p++) {
            SymmetricChecker x = allStates(p);
            for (int code = 0; code < LIMITS[p]; code++) {
                int rest = code;
                int steps = 0;
                for (int q = 0; q < p; q++) {
                    steps += rest % 3 == 0 ? 0 : 1;
                    rest = rest / 3;
                }
                steps += rest % 3;
                steps += rest / 3 == p ? 0 : 1;
                x = code % 400 == 399 ? allStates(p) : x;
                due("depth(" + code + ") for " + p, x.depth(code), steps);
            }
        }
    }

    private static void leastSteps() {
        about("Its DEPTH is the least d for which it is reachable in d steps");
        int[][] orders = {{1, 5, 2}, {1, 2, 5}, {5, 1, 2}, {5, 2, 1}, {2, 1, 5}, {2, 5, 1}};
        for (int[] moves : orders) {
            SymmetricChecker x = new SymmetricChecker(2);
            for (int move : moves) {
                x.addRule(move, ANY, ROOM, 0);
            }
            due("depth of 1, 0", x.depth(code(0, 2, 1, 0)), 1);
            due("depth of 2, 0, which can be reached in 1 step or 2", x.depth(code(0, 2, 2, 0)), 1);
            due("depth of 2, 2, which can be reached in 2 to 4 steps", x.depth(code(0, 2, 2, 2)), 2);
            due("radius()", x.radius(), 2);
        }
    }

    private static void ifThereIsSuchADepth() {
        about("it is REACHABLE if there is such a d");
        SymmetricChecker x = line();
        for (int code = 0; code < 18; code++) {
            due("depth(" + code + ")", x.depth(code), code >= 9 ? code - 9 : code + 9);
        }
        due("reachable()", x.reachable(), 18);
        x.dropRule(4);
        for (int code = 0; code < 18; code++) {
            due("depth(" + code + ") without taking", x.depth(code), code >= 9 ? code - 9 : -2);
        }
        due("reachable() without taking", x.reachable(), 9);
    }

    private static void atLeastLeast() {
        about("if at least least processes have that place");
        int[][] twos = {{1, 0, 0, 0}, {5, 1, 0, 0}, {19, 7, 1, 0}, {65, 33, 9, 1}};
        for (int p = 1; p <= 4; p++) {
            SymmetricChecker x = walkers(p);
            for (int least = 1; least <= 4; least++) {
                x.addAlarm(2, least, 3);
                String by = " of " + p + " by least " + least;
                due("violation()" + by, x.violation(), least <= p ? 2 * least : -1);
                due("badStates()" + by, x.badStates(), twos[p - 1][least - 1]);
                x.clearAlarms();
            }
        }
    }

    private static void alarmShared() {
        about("the shared value is shared, or shared is 3");
        for (int place = 0; place < 3; place++) {
            for (int shared = 0; shared <= 3; shared++) {
                SymmetricChecker x = line();
                x.addAlarm(place, 1, shared);
                String by = " by " + place + " and " + shared;
                due("badStates()" + by, x.badStates(), shared == 3 ? 6 : 2);
                due("violation()" + by, x.violation(), shared == 3 ? place : 3 * shared + place);
            }
        }
    }

    private static void someAlarm() {
        about("A state is BAD if some alarm of the list rings in it.");
        SymmetricChecker x = line();
        due("badStates() by an empty list", x.badStates(), 0);
        for (int n = 0; n < 3; n++) {
            x.addAlarm(0, 2, 3);
        }
        due("badStates() by three that cannot ring", x.badStates(), 0);
        x.addAlarm(2, 1, 2);
        due("badStates() by the fourth", x.badStates(), 2);
        x.clearAlarms();
        x.addAlarm(2, 1, 2);
        x.addAlarm(2, 1, 3);
        x.addAlarm(2, 1, 2);
        due("badStates() where up to three ring", x.badStates(), 6);
    }

    /** Each question alone on a new object, then all of them on one object, there and back. */
    private static void questionsChangeNothing() {
        about("No question changes anything.");
        for (int number = 0; number < SITUATIONS; number++) {
            List<Question> questions = questions(situation(number));
            int[] alone = answersOfNewObjects(number, questions);
            SymmetricChecker x = situation(number);
            for (int k = 0; k < questions.size(); k++) {
                dueAsAlone(x, questions.get(k), alone[k], "after those before it in situation " + number);
            }
            for (int k = questions.size() - 1; k >= 0; k--) {
                dueAsAlone(x, questions.get(k), alone[k], "after those behind it in situation " + number);
            }
            due("the hash of what situation " + number + " holds afterwards", takenApart(x), takenApart(situation(number)));
        }
    }

    private static void refusedCallsChangeNothing() {
        about("A refused call changes nothing.");
        for (int number = 0; number < SITUATIONS; number++) {
            List<Question> questions = questions(situation(number));
            int[] alone = answersOfNewObjects(number, questions);
            for (Question refused : refusedCalls(number)) {
                SymmetricChecker x = situation(number);
                String after = "after " + refused.name() + " in situation " + number;
                due(refused.name() + " in situation " + number, refused.answer().applyAsInt(x) < 0 ? 1 : 0, 1);
                for (int k = 0; k < questions.size(); k++) {
                    dueAsAlone(x, questions.get(k), alone[k], after);
                }
                due("the hash of what is held " + after, takenApart(x), takenApart(situation(number)));
            }
        }
    }

    record Question(String name, ToIntFunction<SymmetricChecker> answer) { }

    private static int[] answersOfNewObjects(int number, List<Question> questions) {
        return questions.stream().mapToInt(q -> q.answer().applyAsInt(situation(number))).toArray();
    }

    private static void dueAsAlone(SymmetricChecker x, Question question, int alone, String after) {
        due(question.name() + " " + after, question.answer().applyAsInt(x), alone);
    }

    private static final int SITUATIONS = 4;

    /** An empty object, one with some rules and alarms, and two with full lists. */
    private static SymmetricChecker situation(int number) {
        if (number == 0) {
            return new SymmetricChecker(1);
        }
        SymmetricChecker x = number == 3 ? allStates(4) : line();
        x.addAlarm(2, 1, 2);
        x.addAlarm(1, 4, 3);
        if (number > 1) {
            x.addAlarm(1, 2, 1);
            x.addAlarm(0, 3, 2);
            for (int n = number == 3 ? 7 : 5; n < 12; n++) {
                x.addRule(n % 9, 16 - n, n - 1, n % 5);
            }
        }
        return x;
    }

    private static List<Question> questions(SymmetricChecker like) {
        int limit = like.limit();
        List<Question> all = new ArrayList<>();
        all.add(new Question("processes()", x -> x.processes()));
        all.add(new Question("limit()", x -> x.limit()));
        all.add(new Question("rules()", x -> x.rules()));
        all.add(new Question("reachable()", x -> x.reachable()));
        all.add(new Question("radius()", x -> x.radius()));
        all.add(new Question("badStates()", x -> x.badStates()));
        all.add(new Question("violation()", x -> x.violation()));
        all.add(new Question("stuckStates()", x -> x.stuckStates()));
        all.add(new Question("endless()", x -> x.endless()));
        for (int depth : new int[] {LOW, -1, 0, 1, 2, 3, 8, 9, 17, 18, HIGH}) {
            all.add(new Question("layer(" + depth + ")", x -> x.layer(depth)));
            all.add(new Question("trace(" + depth + ")", x -> x.trace(depth)));
        }
        for (int k = -1; k <= 18; k++) {
            int code = k * limit / 18;
            all.add(new Question("depth(" + code + ")", x -> x.depth(code)));
            all.add(new Question("choices(" + code + ")", x -> x.choices(code)));
            for (int next : new int[] {code, code + 1, code + 2, code - 2}) {
                all.add(new Question("follows(" + code + ", " + next + ")", x -> x.follows(code, next)));
            }
        }
        return all;
    }

    /** Among these are rules and alarms unlike those of the situations, so that one left behind is seen. */
    private static List<Question> refusedCalls(int number) {
        List<Question> all = new ArrayList<>();
        for (int bad : new int[] {LOW, -1, 16, HIGH}) {
            all.add(new Question("addRule(" + bad + ", 2, 11, 0)", x -> x.addRule(bad, 2, 11, 0)));
            all.add(new Question("addRule(2, " + bad + ", 11, 0)", x -> x.addRule(2, bad, 11, 0)));
            all.add(new Question("addRule(2, 2, " + bad + ", 0)", x -> x.addRule(2, 2, bad, 0)));
            all.add(new Question("addRule(2, 2, 11, " + bad + ")", x -> x.addRule(2, 2, 11, bad)));
            all.add(new Question("dropRule(" + bad + ")", x -> x.dropRule(bad)));
            all.add(new Question("addAlarm(" + bad + ", 1, 3)", x -> x.addAlarm(bad, 1, 3)));
            all.add(new Question("addAlarm(0, " + bad + ", 3)", x -> x.addAlarm(0, bad, 3)));
            all.add(new Question("addAlarm(0, 1, " + bad + ")", x -> x.addAlarm(0, 1, bad)));
        }
        int rules = number == 0 ? 0 : number == 1 ? 5 : 12;
        all.add(new Question("dropRule(" + rules + ")", x -> x.dropRule(rules)));
        if (rules == 12) {
            all.add(new Question("addRule(2, 2, 11, 0)", x -> x.addRule(2, 2, 11, 0)));
            all.add(new Question("addAlarm(0, 1, 3)", x -> x.addAlarm(0, 1, 3)));
        }
        return all;
    }

    /** Empties the lists, rule by rule, and answers a number made of all that is told meanwhile. */
    private static int takenApart(SymmetricChecker x) {
        int hash = 0;
        for (int left = 12; left > 0; left--) {
            hash = 31 * hash + x.dropRule(0);
            hash = 31 * hash + x.reachable();
            hash = 31 * hash + x.badStates();
            hash = 31 * hash + x.choices(start(x.processes()));
        }
        return 31 * hash + x.clearAlarms();
    }

    /** Every mixture of good, too small and too large arguments, for lists with room and for full ones. */
    private static void orderOfTests() {
        about("In every method the tests are made in the order named.");
        SymmetricChecker empty = new SymmetricChecker(2);
        SymmetricChecker full = situation(2);
        int[][] rule = {{1, -1, 9}, {ANY, -1, 16}, {ROOM, -1, 12}, {0, -1, 5}};
        for (int n = 80; n >= 0; n--) {
            int[] pick = {n / 27, n / 9 % 3, n / 3 % 3, n % 3};
            int move = rule[0][pick[0]];
            int sharing = rule[1][pick[1]];
            int crowding = rule[2][pick[2]];
            int token = rule[3][pick[3]];
            String call = "addRule(" + move + ", " + sharing + ", " + crowding + ", " + token + ")";
            due(call, empty.addRule(move, sharing, crowding, token), firstWrong(pick, 1));
            due(call + " to 12", full.addRule(move, sharing, crowding, token), firstWrong(pick, -5));
        }
        int[][] alarm = {{1, -1, 3}, {1, 0, 5}, {3, -1, 4}};
        for (int n = 26; n >= 0; n--) {
            int[] pick = {n / 9, n / 3 % 3, n % 3};
            int place = alarm[0][pick[0]];
            int least = alarm[1][pick[1]];
            int shared = alarm[2][pick[2]];
            String call = "addAlarm(" + place + ", " + least + ", " + shared + ")";
            due(call, empty.addAlarm(place, least, shared), firstWrong(pick, 1));
            due(call + " to 4", full.addAlarm(place, least, shared), firstWrong(pick, -4));
        }
        for (int i : new int[] {LOW, -1, 0, 1, HIGH}) {
            due("trace(" + i + ") without a bad state", new SymmetricChecker(2).trace(i), -1);
        }
    }

    /** The refusal for the first argument that is not the good one, or what is due if all are good. */
    private static int firstWrong(int[] pick, int otherwise) {
        for (int k = 0; k < pick.length; k++) {
            if (pick[k] != 0) {
                return -1 - k;
            }
        }
        return otherwise;
    }
}
