/** What the tests share: the count of wrong answers, the codes of states, and objects ready to be asked. */
class Answers {
    static final int ANY = 15;      // sharing: any shared value, stays as it was
    static final int ROOM = 11;     // crowding: at most 3 others at place 2, so never full
    static final int LOW = Integer.MIN_VALUE;
    static final int HIGH = Integer.MAX_VALUE;
    static final int[] LIMITS = {0, 18, 81, 324, 1215};

    private static String about = "";
    private static int topics = 0;
    private static int asked = 0;
    private static int wrong = 0;

    /** No call may ever throw, and one that does must not hide what the other tests find. */
    static void test(Runnable test) {
        try {
            test.run();
        } catch (RuntimeException e) {
            asked++;
            fail(e + " was thrown");
        }
    }

    /** Names what the next answers are about. A topic without answers would hold whatever the class does. */
    static void about(String words) {
        if (topics > 0 && asked == 0) {
            fail("nothing was asked");
        }
        about = words;
        topics++;
        asked = 0;
    }

    static void due(String call, int got, int want) {
        asked++;
        if (got != want) {
            fail(call + " answered " + got + ", due is " + want);
        }
    }

    static void fail(String what) {
        wrong++;
        System.out.println(about + ": " + what);
    }

    static void end() {
        about("the end");
        System.out.println(wrong == 0 ? "all answers are as due" : wrong + " answers are not as due");
        if (wrong != 0) {
            System.exit(1);
        }
    }

    static int code(int shared, int holder, int... places) {
        int code = 0;
        int unit = 1;
        for (int place : places) {
            code += unit * place;
            unit *= 3;
        }
        return code + unit * shared + 3 * unit * holder;
    }

    static int start(int processes) {
        return code(0, processes, new int[processes]);
    }

    static SymmetricChecker withRule(int processes, int move, int sharing, int crowding, int token) {
        SymmetricChecker x = new SymmetricChecker(processes);
        x.addRule(move, sharing, crowding, token);
        return x;
    }

    /** Every process goes 0 -> 1 -> 2, whatever the others do. */
    static SymmetricChecker walkers(int processes) {
        SymmetricChecker x = new SymmetricChecker(processes);
        x.addRule(1, ANY, ROOM, 0);
        x.addRule(5, ANY, ROOM, 0);
        return x;
    }

    /** Places, shared value and token go round each for itself, so that every state is reachable. */
    static SymmetricChecker allStates(int processes) {
        SymmetricChecker x = walkers(processes);
        x.addRule(2, ANY, ROOM, 0);
        x.addRule(0, 1, ROOM, 0);
        x.addRule(0, 6, ROOM, 0);
        x.addRule(0, ANY, ROOM, 1);
        x.addRule(6, ANY, ROOM, 0);
        return x;
    }

    /**
     * One process that goes through all 18 states in one line: the places go round once for each
     * shared value, all of it first without the token, then with it. The codes are 9 .. 17, then 0 .. 8.
     */
    static SymmetricChecker line() {
        SymmetricChecker x = walkers(1);
        x.addRule(6, 1, ROOM, 0);
        x.addRule(6, 6, ROOM, 0);
        x.addRule(6, 8, ROOM, 1);
        return x;
    }

    static void dueTrace(SymmetricChecker x, int... codes) {
        due("violation()", x.violation(), codes.length - 1);
        for (int i = 0; i < codes.length; i++) {
            due("trace(" + i + ")", x.trace(i), codes[i]);
        }
        for (int i : new int[] {LOW, -1, codes.length, codes.length + 1, HIGH}) {
            due("trace(" + i + ")", x.trace(i), -2);
        }
    }
}
