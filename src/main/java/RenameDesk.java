/** Renames and moves declarations in a small program with nested blocks, when that changes no meaning. */
public final class RenameDesk {
    public static final int NONE = -1;
    public static final int FULL = -2;
    public static final int REFUSED = -3;
    public static final int OPEN = 0;
    public static final int CLOSE = 1;
    public static final int DECLARE = 2;
    public static final int USE = 3;

    private static final int MOST_TOKENS = 28;
    private static final int NAME_COUNT = 8;

    private final int[] kinds = new int[MOST_TOKENS];
    private final int[] labels = new int[MOST_TOKENS];
    private int count = 0;

    // A change is made on this second program first, so that a refused one has nothing to undo.
    private final int[] trialKinds = new int[MOST_TOKENS];
    private final int[] trialLabels = new int[MOST_TOKENS];
    // The place that each token of the trial has in the program: a moved token stays the same one.
    private final int[] origins = new int[MOST_TOKENS];

    public RenameDesk() {
    }

    public int add(int kind, int n) {
        if (!isToken(kind, n)) {
            return NONE;
        }
        if (kind == CLOSE && openCount(count) == 0) {
            return NONE;
        }
        if (count >= MOST_TOKENS) {
            return FULL;
        }
        int place = count;
        kinds[place] = kind;
        labels[place] = hasLabel(kind) ? n : 0;
        count = place + 1;
        return place;
    }

    public int drop() {
        if (count == 0) {
            return NONE;
        }
        count = count - 1;
        return count;
    }

    public int length() {
        return count;
    }

    public int token(int k) {
        if (!isPlace(k)) {
            return NONE;
        }
        return kinds[k] + 4 * labels[k];
    }

    public int bound(int k) {
        if (!isKindAt(k, USE)) {
            return NONE;
        }
        return declarationOf(kinds, labels, k, labels[k]);
    }

    public int uses(int k) {
        if (!isKindAt(k, DECLARE)) {
            return 0;
        }
        return usesBoundTo(k);
    }

    public int free() {
        return usesBoundTo(NONE);
    }

    public int unused() {
        int places = 0;
        for (int k = 0; k < count; k++) {
            if (kinds[k] == DECLARE && usesBoundTo(k) == 0) {
                places = places | (1 << k);
            }
        }
        return places;
    }

    public int names(int k) {
        if (!isKindAt(k, DECLARE)) {
            return 0;
        }
        int legalNames = 0;
        for (int m = 0; m < NAME_COUNT; m++) {
            tryRename(k, m);
            if (isTrialLegal()) {
                legalNames = legalNames | (1 << m);
            }
        }
        return legalNames;
    }

    public int rename(int k, int m) {
        if (!isKindAt(k, DECLARE) || !isName(m)) {
            return NONE;
        }
        int changed = tryRename(k, m);
        if (!isTrialLegal()) {
            return REFUSED;
        }
        keepTrial();
        return changed;
    }

    public int swap(int k) {
        // k + 1 is made only once k is known to be a place, so it does not wrap around.
        if (!isLabelledAt(k) || !isLabelledAt(k + 1)) {
            return NONE;
        }
        tryMoveBack(k + 1, k);
        if (!isTrialLegal()) {
            return REFUSED;
        }
        keepTrial();
        return k;
    }

    public int moveOut(int k) {
        int place = tryMoveOut(k);
        if (place >= 0) {
            keepTrial();
        }
        return place;
    }

    public boolean canMoveOut(int k) {
        return tryMoveOut(k) >= 0;
    }

    public int depth(int k) {
        if (!isPlace(k)) {
            return NONE;
        }
        return openCount(k);
    }

    public int visible(int k) {
        if (!isPlace(k)) {
            return 0;
        }
        int visibleNames = 0;
        for (int n = 0; n < NAME_COUNT; n++) {
            if (declarationOf(kinds, labels, k, n) != NONE) {
                visibleNames = visibleNames | (1 << n);
            }
        }
        return visibleNames;
    }

    private static boolean isName(int n) {
        return n >= 0 && n < NAME_COUNT;
    }

    private static boolean hasLabel(int kind) {
        return kind == DECLARE || kind == USE;
    }

    private static boolean isToken(int kind, int n) {
        return kind == OPEN || kind == CLOSE || (hasLabel(kind) && isName(n));
    }

    private boolean isPlace(int k) {
        return k >= 0 && k < count;
    }

    private boolean isKindAt(int k, int kind) {
        return isPlace(k) && kinds[k] == kind;
    }

    private boolean isLabelledAt(int k) {
        return isPlace(k) && hasLabel(kinds[k]);
    }

    /** The number of blocks that the tokens before the given place leave open. */
    private int openCount(int place) {
        int open = 0;
        for (int p = 0; p < place; p++) {
            if (kinds[p] == OPEN) {
                open = open + 1;
            } else if (kinds[p] == CLOSE) {
                open = open - 1;
            }
        }
        return open;
    }

    /**
     * The declaration that a use of the name n at the given place is bound to, or NONE.
     * Read backwards, the blocks around the place come innermost first and each one's last
     * declaration first, so the first fit is the one, once the blocks closed before are skipped.
     */
    private static int declarationOf(int[] someKinds, int[] someLabels, int place, int n) {
        int closed = 0;
        for (int p = place - 1; p >= 0; p--) {
            if (someKinds[p] == CLOSE) {
                closed = closed + 1;
            } else if (someKinds[p] == OPEN && closed > 0) {
                closed = closed - 1;
            } else if (someKinds[p] == DECLARE && closed == 0 && someLabels[p] == n) {
                return p;
            }
        }
        return NONE;
    }

    /** The OPEN of the innermost block around the given place, or NONE in the outermost block. */
    private int openingAround(int place) {
        int closed = 0;
        for (int p = place - 1; p >= 0; p--) {
            if (kinds[p] == CLOSE) {
                closed = closed + 1;
            } else if (kinds[p] == OPEN && closed == 0) {
                return p;
            } else if (kinds[p] == OPEN) {
                closed = closed - 1;
            }
        }
        return NONE;
    }

    /** The uses bound to the given declaration, as bits; of NONE, the free uses. */
    private int usesBoundTo(int declaration) {
        int places = 0;
        for (int u = 0; u < count; u++) {
            if (kinds[u] == USE && declarationOf(kinds, labels, u, labels[u]) == declaration) {
                places = places | (1 << u);
            }
        }
        return places;
    }

    private void copyToTrial() {
        for (int p = 0; p < count; p++) {
            trialKinds[p] = kinds[p];
            trialLabels[p] = labels[p];
            origins[p] = p;
        }
    }

    private void keepTrial() {
        for (int p = 0; p < count; p++) {
            kinds[p] = trialKinds[p];
            labels[p] = trialLabels[p];
        }
    }

    /** Renames the declaration at k and its uses in the trial; answers how many names differ then. */
    private int tryRename(int k, int m) {
        copyToTrial();
        int renamed = usesBoundTo(k) | (1 << k);
        int changed = 0;
        for (int p = 0; p < count; p++) {
            if ((renamed & (1 << p)) != 0 && labels[p] != m) {
                trialLabels[p] = m;
                changed = changed + 1;
            }
        }
        return changed;
    }

    /** Moves the token at place from back to place to in the trial; those between move up by one. */
    private void tryMoveBack(int from, int to) {
        copyToTrial();
        for (int p = from; p > to; p--) {
            trialKinds[p] = kinds[p - 1];
            trialLabels[p] = labels[p - 1];
            origins[p] = p - 1;
        }
        trialKinds[to] = kinds[from];
        trialLabels[to] = labels[from];
        origins[to] = from;
    }

    /** Moves the declaration at k out in the trial alone; answers what moveOut(k) has to answer. */
    private int tryMoveOut(int k) {
        if (!isKindAt(k, DECLARE)) {
            return NONE;
        }
        int opening = openingAround(k);
        if (opening == NONE) {
            return NONE;
        }
        tryMoveBack(k, opening);
        return isTrialLegal() ? opening : REFUSED;
    }

    private boolean isTrialLegal() {
        for (int p = 0; p < count; p++) {
            if (trialKinds[p] == USE && !isBoundAsBefore(p)) {
                return false;
            }
        }
        return true;
    }

    private boolean isBoundAsBefore(int trialUse) {
        int use = origins[trialUse];
        int before = declarationOf(kinds, labels, use, labels[use]);
        int now = declarationOf(trialKinds, trialLabels, trialUse, trialLabels[trialUse]);
        if (now == NONE) {
            return before == NONE;
        }
        return origins[now] == before;
    }
}
