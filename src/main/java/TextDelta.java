/** Deltas: changes to texts, kept apart from the texts. */
public final class TextDelta {
    public static final int BAD_ARG = -1;
    public static final int FULL = -2;
    public static final int BAD_LENGTH = -3;
    public static final int NONE = -4;
    public static final int KEEP = 1;
    public static final int DROP = 2;
    public static final int ADD = 3;

    private static final int SLOTS = 4;
    private static final int MOST = 40;
    private static final int LETTERS = 10;
    private static final int SLOT_CELLS = 160;

    // A single step stands for an old place or a new item: 40 of each at most.
    private static final int MOST_STEPS = 80;

    // One number tells an item: KEPT s is s, NEW c is NEW_FROM + c, so a kept
    // place can never be taken for a letter.
    private static final int NEW_FROM = 100;

    // One cell more than a delta may have: a draft that fills it is too long,
    // and that is found out without touching any slot.
    private static final int DRAFT_CELLS = 41;

    // Slot n has the cells from n * MOST on.
    private final int[] slotItems = new int[SLOT_CELLS];
    private final int[] slotIn = new int[SLOTS];
    private final int[] slotOut = new int[SLOTS];

    private final int[] workItems = new int[MOST];
    private int workIn;
    private int workOut;
    private int workUsed;

    private final int[] document = new int[MOST];
    private int documentLength;

    // Results are drafted first, because the slot that takes a result may be
    // one that it is made from; and a letter may move either way in the
    // document, so a new document can't be written over the old one in place.
    private final int[] draft = new int[DRAFT_CELLS];
    private int draftLength;
    private final int[] draftDocument = new int[MOST];

    private final int[] runKinds = new int[MOST_STEPS];
    private final int[] runLengths = new int[MOST_STEPS];
    private int runCount;

    // The zeros that fields and arrays start with are the new object's state.
    public TextDelta() {
    }

    public int begin(int m) {
        if (m < 0 || m > MOST) {
            return BAD_ARG;
        }
        workIn = m;
        workOut = 0;
        workUsed = 0;
        return 0;
    }

    public int keep(int k) {
        if (k < 1) {
            return BAD_ARG;
        }
        if (k > workIn - workUsed) {
            return BAD_LENGTH;
        }
        if (k > MOST - workOut) {
            return FULL;
        }
        for (int i = 0; i < k; i++) {
            workItems[workOut + i] = workUsed + i;
        }
        workOut += k;
        workUsed += k;
        return workOut;
    }

    public int drop(int k) {
        if (k < 1) {
            return BAD_ARG;
        }
        if (k > workIn - workUsed) {
            return BAD_LENGTH;
        }
        workUsed += k;
        return workUsed;
    }

    public int add(int c) {
        if (!isLetter(c)) {
            return BAD_ARG;
        }
        if (workOut >= MOST) {
            return FULL;
        }
        workItems[workOut] = NEW_FROM + c;
        workOut++;
        return workOut;
    }

    public int finish(int slot) {
        if (!isSlot(slot)) {
            return BAD_ARG;
        }
        if (workOut + workIn - workUsed > MOST) {
            return FULL;
        }
        draftLength = 0;
        for (int i = 0; i < workOut; i++) {
            draftItem(workItems[i]);
        }
        draftKept(workUsed, workIn);
        return storeDraft(slot, workIn);
    }

    public int join(int a, int b, int to) {
        if (!isSlot(a) || !isSlot(b) || !isSlot(to)) {
            return BAD_ARG;
        }
        if (slotOut[a] != slotIn[b]) {
            return BAD_LENGTH;
        }
        draftLength = 0;
        for (int i = 0; i < slotOut[b]; i++) {
            int item = slotItems[b * MOST + i];
            if (!isNew(item)) {
                item = slotItems[a * MOST + item];
            }
            draftItem(item);
        }
        return storeDraft(to, slotIn[a]);
    }

    public int carry(int a, int b, int aFirst, int to) {
        if (!isSlot(a) || !isSlot(b) || !isSlot(to)) {
            return BAD_ARG;
        }
        if (slotIn[a] != slotIn[b]) {
            return BAD_LENGTH;
        }
        draftCarried(a, b, aFirst != 0);
        if (draftLength > MOST) {
            return FULL;
        }
        return storeDraft(to, slotOut[b]);
    }

    public int apply(int slot, int back) {
        if (!isSlot(slot) || !isSlot(back)) {
            return BAD_ARG;
        }
        if (documentLength != slotIn[slot]) {
            return BAD_LENGTH;
        }
        int newLength = slotOut[slot];
        draftWayBack(slot);
        changeDocument(slot);
        storeDraft(back, newLength);
        return newLength;
    }

    public int type(int c) {
        if (!isLetter(c)) {
            return BAD_ARG;
        }
        if (documentLength >= MOST) {
            return FULL;
        }
        document[documentLength] = c;
        documentLength++;
        return documentLength;
    }

    public void clear() {
        documentLength = 0;
    }

    public int length() {
        return documentLength;
    }

    public int at(int i) {
        if (i < 0 || i >= documentLength) {
            return NONE;
        }
        return document[i];
    }

    public int inLength(int slot) {
        return isSlot(slot) ? slotIn[slot] : BAD_ARG;
    }

    public int outLength(int slot) {
        return isSlot(slot) ? slotOut[slot] : BAD_ARG;
    }

    public int runs(int slot) {
        if (!isSlot(slot)) {
            return BAD_ARG;
        }
        listRuns(slot);
        return runCount;
    }

    public int run(int slot, int i) {
        if (!isSlot(slot)) {
            return BAD_ARG;
        }
        listRuns(slot);
        if (i < 0 || i >= runCount) {
            return NONE;
        }
        return runKinds[i] + 4 * runLengths[i];
    }

    public int added(int slot, int i) {
        if (!isSlot(slot)) {
            return BAD_ARG;
        }
        int seen = 0;
        for (int place = 0; place < slotOut[slot]; place++) {
            int item = slotItems[slot * MOST + place];
            if (isNew(item)) {
                if (seen == i) {
                    return item - NEW_FROM;
                }
                seen++;
            }
        }
        return NONE;
    }

    public boolean same(int a, int b) {
        if (!isSlot(a) || !isSlot(b)) {
            return false;
        }
        if (slotIn[a] != slotIn[b] || slotOut[a] != slotOut[b]) {
            return false;
        }
        for (int i = 0; i < slotOut[a]; i++) {
            if (slotItems[a * MOST + i] != slotItems[b * MOST + i]) {
                return false;
            }
        }
        return true;
    }

    private static boolean isSlot(int slot) {
        return slot >= 0 && slot < SLOTS;
    }

    private static boolean isLetter(int c) {
        return c >= 0 && c < LETTERS;
    }

    private static boolean isNew(int item) {
        return item >= NEW_FROM;
    }

    private void draftItem(int item) {
        if (draftLength < DRAFT_CELLS) {
            draft[draftLength] = item;
            draftLength++;
        }
    }

    private void draftKept(int from, int end) {
        for (int place = from; place < end; place++) {
            draftItem(place);
        }
    }

    private void draftNewOf(int slot, int from, int end) {
        for (int i = from; i < end; i++) {
            draftItem(slotItems[slot * MOST + i]);
        }
    }

    private int storeDraft(int slot, int in) {
        for (int i = 0; i < draftLength; i++) {
            slotItems[slot * MOST + i] = draft[i];
        }
        slotIn[slot] = in;
        slotOut[slot] = draftLength;
        return draftLength;
    }

    private void draftCarried(int a, int b, boolean aFirst) {
        draftLength = 0;
        int fromA = 0;
        int fromB = 0;
        for (int gap = 0; gap <= slotIn[a]; gap++) {
            boolean aKeeps = keepsNext(a, fromA, gap - 1);
            boolean bKeeps = keepsNext(b, fromB, gap - 1);
            if (aKeeps && bKeeps) {
                draftItem(fromB);
            }
            fromA += aKeeps ? 1 : 0;
            fromB += bKeeps ? 1 : 0;
            int endA = endOfNew(a, fromA);
            int endB = endOfNew(b, fromB);
            if (aFirst) {
                draftNewOf(a, fromA, endA);
                draftKept(fromB, endB);
            } else {
                draftKept(fromB, endB);
                draftNewOf(a, fromA, endA);
            }
            fromA = endA;
            fromB = endB;
        }
    }

    private void draftWayBack(int slot) {
        draftLength = 0;
        int next = endOfNew(slot, 0);
        for (int place = 0; place < documentLength; place++) {
            if (keepsNext(slot, next, place)) {
                draftItem(next);
                next = endOfNew(slot, next + 1);
            } else {
                draftItem(NEW_FROM + document[place]);
            }
        }
    }

    private void changeDocument(int slot) {
        for (int i = 0; i < slotOut[slot]; i++) {
            int item = slotItems[slot * MOST + i];
            draftDocument[i] = isNew(item) ? item - NEW_FROM : document[item];
        }
        documentLength = slotOut[slot];
        for (int i = 0; i < documentLength; i++) {
            document[i] = draftDocument[i];
        }
    }

    // Gap 0 asks for the old place -1, which no item keeps.
    private boolean keepsNext(int slot, int next, int place) {
        return next < slotOut[slot] && slotItems[slot * MOST + next] == place;
    }

    private int endOfNew(int slot, int from) {
        for (int i = from; i < slotOut[slot]; i++) {
            if (!isNew(slotItems[slot * MOST + i])) {
                return i;
            }
        }
        return slotOut[slot];
    }

    // After a dropped place the next item is a kept one or there is none, so new
    // items are listed only right after the kept item that they stand behind.
    private void listRuns(int slot) {
        runCount = 0;
        int next = 0;
        for (int gap = 0; gap <= slotIn[slot]; gap++) {
            if (keepsNext(slot, next, gap - 1)) {
                listStep(KEEP);
                next++;
            } else if (gap > 0) {
                listStep(DROP);
            }
            int end = endOfNew(slot, next);
            for (int i = next; i < end; i++) {
                listStep(ADD);
            }
            next = end;
        }
    }

    private void listStep(int kind) {
        if (runCount > 0 && runKinds[runCount - 1] == kind) {
            runLengths[runCount - 1]++;
        } else {
            runKinds[runCount] = kind;
            runLengths[runCount] = 1;
            runCount++;
        }
    }
}
