/** A checker of all reachable states of a few identical processes that run by common rules. */
public final class SymmetricChecker {
    private static final int MOST_PROCESSES = 4;
    private static final int MOST_RULES = 12;
    private static final int MOST_ALARMS = 4;
    private static final int MOST_STATES = 1215;

    private static final int ANY_SHARED = 3;
    private static final int SHARED_AS_IT_WAS = 3;

    private static final int TOKEN_TAKE = 1;
    private static final int TOKEN_DROP = 2;
    private static final int TOKEN_HAVE = 3;
    private static final int TOKEN_NOT_HAVE = 4;

    private static final int NOT_REACHED = -2;

    private final int processCount;
    private final int stateCount;

    private int ruleCount = 0;
    private final int[] ruleMove = new int[MOST_RULES];
    private final int[] ruleSharing = new int[MOST_RULES];
    private final int[] ruleCrowding = new int[MOST_RULES];
    private final int[] ruleToken = new int[MOST_RULES];

    private int alarmCount = 0;
    private final int[] alarmPlace = new int[MOST_ALARMS];
    private final int[] alarmLeast = new int[MOST_ALARMS];
    private final int[] alarmShared = new int[MOST_ALARMS];

    // These follow from the rules alone. Every change of the rules brings them up to date,
    // so that the questions only read.
    private int reachedCount = 0;
    private final int[] reached = new int[MOST_STATES];
    private final int[] depthOf = new int[MOST_STATES];
    private final boolean[] walksOn = new boolean[MOST_STATES];

    public SymmetricChecker(int processes) {
        processCount = processes < 1 ? 1 : processes > MOST_PROCESSES ? MOST_PROCESSES : processes;
        stateCount = powerOfThree(processCount + 1) * (processCount + 1);
        findReached();
        findEndless();
    }

    public int processes() {
        return processCount;
    }

    public int limit() {
        return stateCount;
    }

    public int addRule(int move, int sharing, int crowding, int token) {
        if (move < 0 || move > 8) {
            return -1;
        }
        if (sharing < 0 || sharing > 15) {
            return -2;
        }
        if (crowding < 0 || crowding > 11) {
            return -3;
        }
        if (token < 0 || token > 4) {
            return -4;
        }
        if (ruleCount >= MOST_RULES) {
            return -5;
        }
        ruleMove[ruleCount] = move;
        ruleSharing[ruleCount] = sharing;
        ruleCrowding[ruleCount] = crowding;
        ruleToken[ruleCount] = token;
        ruleCount++;
        findReached();
        findEndless();
        return ruleCount;
    }

    public int dropRule(int i) {
        if (i < 0 || i >= ruleCount) {
            return -1;
        }
        for (int k = i; k + 1 < ruleCount; k++) {
            ruleMove[k] = ruleMove[k + 1];
            ruleSharing[k] = ruleSharing[k + 1];
            ruleCrowding[k] = ruleCrowding[k + 1];
            ruleToken[k] = ruleToken[k + 1];
        }
        ruleCount--;
        findReached();
        findEndless();
        return ruleCount;
    }

    public int addAlarm(int place, int least, int shared) {
        if (place < 0 || place > 2) {
            return -1;
        }
        if (least < 1 || least > 4) {
            return -2;
        }
        if (shared < 0 || shared > 3) {
            return -3;
        }
        if (alarmCount >= MOST_ALARMS) {
            return -4;
        }
        alarmPlace[alarmCount] = place;
        alarmLeast[alarmCount] = least;
        alarmShared[alarmCount] = shared;
        alarmCount++;
        return alarmCount;
    }

    public int clearAlarms() {
        int before = alarmCount;
        alarmCount = 0;
        return before;
    }

    public int rules() {
        return ruleCount;
    }

    public int reachable() {
        return reachedCount;
    }

    public int depth(int code) {
        return isCode(code) ? depthOf[code] : -1;
    }

    public int radius() {
        int greatest = 0;
        for (int k = 0; k < reachedCount; k++) {
            if (depthOf[reached[k]] > greatest) {
                greatest = depthOf[reached[k]];
            }
        }
        return greatest;
    }

    public int layer(int depth) {
        int count = 0;
        for (int k = 0; k < reachedCount; k++) {
            if (depthOf[reached[k]] == depth) {
                count++;
            }
        }
        return count;
    }

    public int badStates() {
        int count = 0;
        for (int k = 0; k < reachedCount; k++) {
            if (isBad(reached[k])) {
                count++;
            }
        }
        return count;
    }

    public int violation() {
        int code = firstBad();
        return code < 0 ? -1 : depthOf[code];
    }

    public int stuckStates() {
        int count = 0;
        for (int k = 0; k < reachedCount; k++) {
            if (countChoices(reached[k]) == 0) {
                count++;
            }
        }
        return count;
    }

    public int choices(int code) {
        return isCode(code) ? countChoices(code) : -1;
    }

    public int follows(int code, int next) {
        if (!isCode(code) || !isCode(next)) {
            return -1;
        }
        return leadsTo(code, next) ? 1 : 0;
    }

    public int trace(int i) {
        int code = firstBad();
        if (code < 0) {
            return -1;
        }
        int last = depthOf[code];
        if (i < 0 || i > last) {
            return -2;
        }
        for (int d = last - 1; d >= i; d--) {
            code = leastBefore(code, d);
        }
        return code;
    }

    public int endless() {
        int count = 0;
        for (int k = 0; k < reachedCount; k++) {
            if (walksOn[reached[k]]) {
                count++;
            }
        }
        return count;
    }

    private boolean isCode(int code) {
        return code >= 0 && code < stateCount;
    }

    private static int powerOfThree(int exponent) {
        int power = 1;
        for (int k = 0; k < exponent; k++) {
            power = power * 3;
        }
        return power;
    }

    /**
     * The code without its lowest digits to the base 3: the first digit of what is left is the place
     * of process p after p digits, and the shared value after P; the holder is left after P + 1.
     */
    private static int withoutDigits(int code, int digits) {
        int rest = code;
        for (int k = 0; k < digits; k++) {
            rest = rest / 3;
        }
        return rest;
    }

    private int countAt(int code, int place) {
        int count = 0;
        int rest = code;
        for (int p = 0; p < processCount; p++) {
            if (rest % 3 == place) {
                count++;
            }
            rest = rest / 3;
        }
        return count;
    }

    private boolean canTake(int code, int p, int i) {
        int from = ruleMove[i] / 3;
        if (withoutDigits(code, p) % 3 != from) {
            return false;
        }
        int sharedIs = ruleSharing[i] / 4;
        if (sharedIs != ANY_SHARED && withoutDigits(code, processCount) % 3 != sharedIs) {
            return false;
        }
        int crowd = ruleCrowding[i] / 4;
        int most = ruleCrowding[i] % 4;
        // p is at from, and only the other processes count.
        int others = from == crowd ? countAt(code, crowd) - 1 : countAt(code, crowd);
        if (others > most) {
            return false;
        }
        int holder = withoutDigits(code, processCount + 1);
        return tokenAllows(ruleToken[i], holder, p);
    }

    private boolean tokenAllows(int token, int holder, int p) {
        switch (token) {
            case TOKEN_TAKE:
                return holder == processCount;
            case TOKEN_DROP:
            case TOKEN_HAVE:
                return holder == p;
            case TOKEN_NOT_HAVE:
                return holder != p;
            default:
                return true;
        }
    }

    /** The code of the state that p makes by taking rule i, which it must be able to take. */
    private int codeAfter(int code, int p, int i) {
        int from = ruleMove[i] / 3;
        int to = ruleMove[i] % 3;
        int shared = withoutDigits(code, processCount) % 3;
        int sharedBecomes = ruleSharing[i] % 4;
        int nextShared = sharedBecomes == SHARED_AS_IT_WAS ? shared : sharedBecomes;
        int holder = withoutDigits(code, processCount + 1);
        int nextHolder = holder;
        if (ruleToken[i] == TOKEN_TAKE) {
            nextHolder = p;
        } else if (ruleToken[i] == TOKEN_DROP) {
            nextHolder = processCount;
        }
        return code
                + (to - from) * powerOfThree(p)
                + (nextShared - shared) * powerOfThree(processCount)
                + (nextHolder - holder) * powerOfThree(processCount + 1);
    }

    private int countChoices(int code) {
        int count = 0;
        for (int p = 0; p < processCount; p++) {
            for (int i = 0; i < ruleCount; i++) {
                if (canTake(code, p, i)) {
                    count++;
                }
            }
        }
        return count;
    }

    private boolean leadsTo(int code, int next) {
        for (int p = 0; p < processCount; p++) {
            for (int i = 0; i < ruleCount; i++) {
                if (canTake(code, p, i) && codeAfter(code, p, i) == next) {
                    return true;
                }
            }
        }
        return false;
    }

    /** Lists the reachable states by rising depth and notes the depth of each. */
    private void findReached() {
        for (int code = 0; code < MOST_STATES; code++) {
            depthOf[code] = NOT_REACHED;
        }
        int start = processCount * powerOfThree(processCount + 1);
        depthOf[start] = 0;
        reached[0] = start;
        reachedCount = 1;
        // The list grows while it is walked, but never beyond one entry for each code.
        for (int k = 0; k < MOST_STATES && k < reachedCount; k++) {
            reachFrom(reached[k]);
        }
    }

    private void reachFrom(int code) {
        for (int p = 0; p < processCount; p++) {
            for (int i = 0; i < ruleCount; i++) {
                if (canTake(code, p, i)) {
                    int next = codeAfter(code, p, i);
                    if (depthOf[next] == NOT_REACHED) {
                        depthOf[next] = depthOf[code] + 1;
                        reached[reachedCount] = next;
                        reachedCount++;
                    }
                }
            }
        }
    }

    /**
     * Strikes out reachable states that lead to struck ones alone until none is left to strike.
     * There are finitely many states, so walks of every length start from those that remain.
     */
    private void findEndless() {
        for (int code = 0; code < stateCount; code++) {
            walksOn[code] = depthOf[code] != NOT_REACHED;
        }
        boolean struck = true;
        for (int round = 0; round < reachedCount && struck; round++) {
            struck = false;
            // Deep states first: walks tend to end there, so fewer rounds are needed.
            for (int k = reachedCount - 1; k >= 0; k--) {
                int code = reached[k];
                if (walksOn[code] && !leadsToWalker(code)) {
                    walksOn[code] = false;
                    struck = true;
                }
            }
        }
    }

    private boolean leadsToWalker(int code) {
        for (int p = 0; p < processCount; p++) {
            for (int i = 0; i < ruleCount; i++) {
                if (canTake(code, p, i)) {
                    int next = codeAfter(code, p, i);
                    if (walksOn[next]) {
                        return true;
                    }
                }
            }
        }
        return false;
    }

    private boolean rings(int a, int code) {
        int shared = withoutDigits(code, processCount) % 3;
        if (alarmShared[a] != ANY_SHARED && alarmShared[a] != shared) {
            return false;
        }
        return countAt(code, alarmPlace[a]) >= alarmLeast[a];
    }

    private boolean isBad(int code) {
        for (int a = 0; a < alarmCount; a++) {
            if (rings(a, code)) {
                return true;
            }
        }
        return false;
    }

    /** The reachable bad state of the least depth and, among those, of the least code; -1 for none. */
    private int firstBad() {
        int first = -1;
        for (int code = 0; code < stateCount; code++) {
            if (depthOf[code] != NOT_REACHED && isBad(code)) {
                if (first < 0 || depthOf[code] < depthOf[first]) {
                    first = code;
                }
            }
        }
        return first;
    }

    /** The least code of the given depth whose state leads to this one; -1 for none. */
    private int leastBefore(int code, int depth) {
        for (int before = 0; before < stateCount; before++) {
            if (depthOf[before] == depth && leadsTo(before, code)) {
                return before;
            }
        }
        return -1;
    }
}
