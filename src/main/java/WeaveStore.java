/** Keeps all versions of a text that grows in branches. */
public final class WeaveStore {
    public static final int BAD = -1;
    public static final int FULL = -2;

    private static final int MAX_VERSIONS = 12;
    private static final int MAX_LINES = 12;
    private static final int MAX_PUTS = 30;
    private static final int MAX_CONTENT = 99;
    private static final int TEXT_CELLS = MAX_VERSIONS * MAX_LINES;
    private static final int NONE = -1;

    // Every put makes a line with a number of its own, because two lines with
    // equal content are still two lines; texts are lists of these numbers.
    private final int[] contentOf = new int[MAX_PUTS];
    private final int[] ownerOf = new int[MAX_PUTS];

    // The text of version v stands from cell v * MAX_LINES on.
    private final int[] texts = new int[TEXT_CELLS];
    private final int[] lengthOf = new int[MAX_VERSIONS];
    private final int[] baseOf = new int[MAX_VERSIONS];
    private int versionCount;

    private final int[] draftText = new int[MAX_LINES];
    private int draftLength;
    private int draftBase;

    // Lines from number closedPuts on were put into the open draft; they are
    // given back when it is thrown away.
    private int closedPuts;
    private int allPuts;

    public WeaveStore() {
        baseOf[0] = BAD;
        versionCount = 1;
        draftBase = NONE;
    }

    public int open(int v) {
        if (!isVersion(v)) {
            return BAD;
        }
        throwDraftAway();
        draftBase = v;
        draftLength = lengthOf[v];
        for (int i = 0; i < draftLength; i++) {
            draftText[i] = texts[v * MAX_LINES + i];
        }
        return draftLength;
    }

    public int put(int i, int content) {
        if (!isDraftOpen() || content < 0 || content > MAX_CONTENT || i < 0 || i > draftLength) {
            return BAD;
        }
        if (draftLength >= MAX_LINES || allPuts >= MAX_PUTS) {
            return FULL;
        }
        for (int k = draftLength; k > i; k--) {
            draftText[k] = draftText[k - 1];
        }
        draftText[i] = newLine(content);
        draftLength++;
        return draftLength;
    }

    public int cut(int i) {
        if (!isDraftOpen() || i < 0 || i >= draftLength) {
            return BAD;
        }
        int taken = draftText[i];
        draftLength--;
        for (int k = i; k < draftLength; k++) {
            draftText[k] = draftText[k + 1];
        }
        return contentOf[taken];
    }

    public int close() {
        if (!isDraftOpen()) {
            return BAD;
        }
        if (versionCount >= MAX_VERSIONS) {
            return FULL;
        }
        int v = versionCount;
        for (int i = 0; i < draftLength; i++) {
            texts[v * MAX_LINES + i] = draftText[i];
        }
        lengthOf[v] = draftLength;
        baseOf[v] = draftBase;
        versionCount++;
        closedPuts = allPuts;
        draftBase = NONE;
        return v;
    }

    public boolean discard() {
        boolean wasOpen = isDraftOpen();
        throwDraftAway();
        return wasOpen;
    }

    public int versions() {
        return versionCount;
    }

    public int length(int v) {
        return isVersion(v) ? lengthOf[v] : BAD;
    }

    public int line(int v, int i) {
        int wanted = lineAt(v, i);
        return wanted == NONE ? BAD : contentOf[wanted];
    }

    public int origin(int v, int i) {
        int wanted = lineAt(v, i);
        return wanted == NONE ? BAD : ownerOf[wanted];
    }

    public int base(int v) {
        return isVersion(v) ? baseOf[v] : BAD;
    }

    public int ancestors(int v) {
        if (!isVersion(v)) {
            return 0;
        }
        int found = 0;
        int next = v;
        // A base is always earlier, so one walk downwards meets all of them.
        for (int w = v; w >= 0; w--) {
            if (w == next) {
                found |= 1 << w;
                next = baseOf[w];
            }
        }
        return found;
    }

    public int shared(int v, int w) {
        if (!isVersion(v) || !isVersion(w)) {
            return BAD;
        }
        int count = 0;
        for (int i = 0; i < lengthOf[v]; i++) {
            if (placeOf(texts[v * MAX_LINES + i], w) != NONE) {
                count++;
            }
        }
        return count;
    }

    public int placeIn(int v, int i, int w) {
        int wanted = lineAt(v, i);
        if (wanted == NONE || !isVersion(w)) {
            return BAD;
        }
        int place = placeOf(wanted, w);
        return place == NONE ? BAD : place;
    }

    public int having(int v, int i) {
        int wanted = lineAt(v, i);
        if (wanted == NONE) {
            return 0;
        }
        int found = 0;
        for (int w = 0; w < versionCount; w++) {
            if (placeOf(wanted, w) != NONE) {
                found |= 1 << w;
            }
        }
        return found;
    }

    public int draft(int what) {
        if (!isDraftOpen() || what < 0 || what > 2) {
            return BAD;
        }
        if (what == 0) {
            return draftLength;
        }
        int fresh = countNewLines();
        return what == 1 ? draftLength - fresh : fresh;
    }

    private boolean isVersion(int v) {
        return v >= 0 && v < versionCount;
    }

    private boolean isDraftOpen() {
        return draftBase != NONE;
    }

    private void throwDraftAway() {
        allPuts = closedPuts;
        draftBase = NONE;
    }

    private int newLine(int content) {
        int made = allPuts;
        contentOf[made] = content;
        // Only one draft is open at a time, so its version's number is known.
        ownerOf[made] = versionCount;
        allPuts++;
        return made;
    }

    private int countNewLines() {
        int count = 0;
        for (int i = 0; i < draftLength; i++) {
            if (draftText[i] >= closedPuts) {
                count++;
            }
        }
        return count;
    }

    private int lineAt(int v, int i) {
        if (!isVersion(v) || i < 0 || i >= lengthOf[v]) {
            return NONE;
        }
        return texts[v * MAX_LINES + i];
    }

    private int placeOf(int wanted, int w) {
        for (int i = 0; i < lengthOf[w]; i++) {
            if (texts[w * MAX_LINES + i] == wanted) {
                return i;
            }
        }
        return NONE;
    }
}
