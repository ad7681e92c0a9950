/**
 * Objects that refer to each other, kept by seven collectors at once, none of which ever loses one
 * that can be come to, or keeps, when it has collected, one that cannot.
 *
 * Each collector has registers and cells of its own and its own way of collecting; every change is
 * made in all seven, so that whichever is asked, the answer is the same.
 */
public final class CollectorSuite {
    public static final int BAD = -1000;
    public static final int FULL = -2000;
    public static final int OBJECT = -3000;

    private static final int REGISTERS = 6;
    private static final int FIELDS = 3;
    private static final int GREATEST = 999;
    private static final int MOST = 24;

    // The ways of collecting, by the collector's number.
    private static final int SWEEPING = 0;  // marks what can be come to and sweeps the rest
    private static final int COPYING = 1;   // copies what can be come to into the other half
    private static final int SLIDING = 2;   // slides what can be come to together, in its order
    private static final int COUNTING = 3;  // counts references, and looks for cycles when it must
    private static final int AGEING = 4;    // moves what outlives the nursery to an old place
    private static final int STEPPING = 5;  // marks a little at every make, from a snapshot
    private static final int REVERSING = 6; // marks by turning references round, without a queue
    private static final int COLLECTORS = 7;

    // Twice MOST, so that COPYING has two halves that each hold all that can be come to.
    private static final int CELLS = 48;
    private static final int HALF = 24;
    private static final int NURSERY = 16;
    private static final int START_BELOW = 16;
    private static final int PACE = 2;

    private static final int ALL_REGISTERS = COLLECTORS * REGISTERS;
    private static final int ALL_CELLS = COLLECTORS * CELLS;
    private static final int ALL_FIELDS = ALL_CELLS * FIELDS;

    // A word below REFERENCE is a number; any other is REFERENCE plus the cell referred to.
    private static final int REFERENCE = 1000;
    private static final int NONE = -1;

    private static final int WHITE = 0;
    private static final int GREY = 1;
    private static final int BLACK = 2;

    private final int[] register = new int[ALL_REGISTERS];
    private final int[] field = new int[ALL_FIELDS];
    private final boolean[] kept = new boolean[ALL_CELLS];

    // Used within one call alone.
    private final boolean[] seen = new boolean[ALL_CELLS];
    private final int[] queue = new int[CELLS];
    private int reached = 0;
    private final int[] forward = new int[ALL_CELLS];
    private final int[] trial = new int[ALL_CELLS];
    private final int[] turn = new int[ALL_CELLS];
    private final int[] partner = new int[ALL_CELLS];
    private final int[] partnerBack = new int[ALL_CELLS];

    // What one collector alone keeps from call to call.
    private int half = COPYING * CELLS;
    private final int[] tally = new int[ALL_CELLS];
    private final boolean[] remembered = new boolean[ALL_CELLS];
    private final int[] shade = new int[ALL_CELLS];
    private boolean marking = false;

    public CollectorSuite() {
    }

    // ---- what changes the objects -------------------------------------------------------------

    public int make(int r) {
        if (!isRegister(r)) {
            return BAD;
        }
        int before = trace(SWEEPING, 0, REGISTERS);
        if (before >= MOST) {
            return FULL;
        }
        // Below MOST every collector finds room; it is asked all the same, so that no cell is
        // used that has not been looked at, and no collector makes an object that another cannot.
        boolean room = true;
        for (int c = 0; c < COLLECTORS; c++) {
            boolean found = makeRoom(c);
            room = room && found;
        }
        if (!room) {
            return FULL;
        }
        for (int c = 0; c < COLLECTORS; c++) {
            int cell = freeCell(c);
            takeCell(cell);
            setRegister(c, r, REFERENCE + cell);
        }
        return trace(SWEEPING, 0, REGISTERS);
    }

    public boolean number(int r, int v) {
        if (!isRegister(r) || !isNumber(v)) {
            return false;
        }
        for (int c = 0; c < COLLECTORS; c++) {
            setRegister(c, r, v);
        }
        return true;
    }

    public boolean copy(int r, int s) {
        if (!isRegister(r) || !isRegister(s)) {
            return false;
        }
        for (int c = 0; c < COLLECTORS; c++) {
            setRegister(c, r, register[c * REGISTERS + s]);
        }
        return true;
    }

    public boolean get(int r, int s, int f) {
        if (!isRegister(r) || !isRegister(s) || !isField(f) || !refersEverywhere(s)) {
            return false;
        }
        for (int c = 0; c < COLLECTORS; c++) {
            int cell = cellOf(c, s);
            setRegister(c, r, field[cell * FIELDS + f]);
        }
        return true;
    }

    public boolean put(int r, int f, int s) {
        if (!isRegister(r) || !isField(f) || !isRegister(s) || !refersEverywhere(r)) {
            return false;
        }
        for (int c = 0; c < COLLECTORS; c++) {
            int cell = cellOf(c, r);
            setField(c, cell, f, register[c * REGISTERS + s]);
        }
        return true;
    }

    // ---- what asks a collector ----------------------------------------------------------------

    public int value(int collector, int r) {
        if (!isCollector(collector) || !isRegister(r)) {
            return BAD;
        }
        int word = register[collector * REGISTERS + r];
        return word < REFERENCE ? word : OBJECT;
    }

    public int look(int collector, int r, int f) {
        if (!isCollector(collector) || !isRegister(r) || !isField(f)) {
            return BAD;
        }
        int cell = cellOf(collector, r);
        if (cell == NONE) {
            return BAD;
        }
        int word = field[cell * FIELDS + f];
        return word < REFERENCE ? word : OBJECT;
    }

    public boolean same(int collector, int r, int s) {
        if (!isCollector(collector) || !isRegister(r) || !isRegister(s)) {
            return false;
        }
        int cell = cellOf(collector, r);
        return cell != NONE && cell == cellOf(collector, s);
    }

    public int count(int collector) {
        if (!isCollector(collector)) {
            return BAD;
        }
        return trace(collector, 0, REGISTERS);
    }

    public int reach(int collector, int r) {
        if (!isCollector(collector) || !isRegister(r)) {
            return BAD;
        }
        return trace(collector, r, r + 1);
    }

    public int sum(int collector) {
        if (!isCollector(collector)) {
            return BAD;
        }
        int objects = trace(collector, 0, REGISTERS);
        int total = 0;
        for (int at = 0; at < CELLS && at < objects; at++) {
            for (int f = 0; f < FIELDS; f++) {
                int word = field[queue[at] * FIELDS + f];
                total += word < REFERENCE ? word : 0;
            }
        }
        return total;
    }

    public int collect(int collector) {
        if (!isCollector(collector)) {
            return BAD;
        }
        runCollection(collector);
        int first = collector * CELLS;
        return CELLS - freeCells(first, first + CELLS);
    }

    public boolean agree(int collector, int other) {
        return isCollector(collector) && isCollector(other) && pairsUp(collector, other);
    }

    public boolean sound() {
        // Words come first: the rest follows references and must not leave the cells.
        for (int c = 0; c < COLLECTORS; c++) {
            if (!wordsAreSound(c)) {
                return false;
            }
        }
        for (int c = 1; c < COLLECTORS; c++) {
            if (!pairsUp(SWEEPING, c)) {
                return false;
            }
        }
        return otherHalfIsEmpty() && slidCellsHaveNoGap() && talliesAreRight()
                && oldCellsAreRemembered() && nothingWillBeMissed();
    }

    // ---- arguments ----------------------------------------------------------------------------

    private static boolean isRegister(int r) {
        return r >= 0 && r < REGISTERS;
    }

    private static boolean isField(int f) {
        return f >= 0 && f < FIELDS;
    }

    private static boolean isNumber(int v) {
        return v >= -GREATEST && v <= GREATEST;
    }

    private static boolean isCollector(int collector) {
        return collector >= 0 && collector < COLLECTORS;
    }

    // ---- registers, fields and cells ----------------------------------------------------------

    private int cellOf(int collector, int r) {
        int word = register[collector * REGISTERS + r];
        return word < REFERENCE ? NONE : word - REFERENCE;
    }

    private boolean refersEverywhere(int r) {
        for (int c = 0; c < COLLECTORS; c++) {
            if (cellOf(c, r) == NONE) {
                return false;
            }
        }
        return true;
    }

    private void setRegister(int collector, int r, int word) {
        int at = collector * REGISTERS + r;
        int old = register[at];
        // The new one is counted before the old one is dropped: they may be the same object.
        if (collector == COUNTING) {
            addReference(word);
        }
        register[at] = word;
        if (collector == COUNTING) {
            dropReference(old);
        }
    }

    private void setField(int collector, int cell, int f, int word) {
        int at = cell * FIELDS + f;
        int old = field[at];
        if (collector == COUNTING) {
            addReference(word);
        }
        field[at] = word;
        if (collector == COUNTING) {
            dropReference(old);
        }
        // Emptying the nursery looks at no old cell but the remembered ones.
        if (collector == AGEING && !isYoung(REFERENCE + cell) && isYoung(word)) {
            remembered[cell] = true;
        }
        // What the snapshot held must be marked even if the way to it is cut meanwhile.
        if (collector == STEPPING && marking) {
            shadeGrey(old);
        }
    }

    private static boolean isYoung(int word) {
        int cell = word - REFERENCE;
        return cell >= AGEING * CELLS && cell < AGEING * CELLS + NURSERY;
    }

    private int freeCell(int collector) {
        int first = collector * CELLS;
        int end = first + CELLS;
        if (collector == COPYING) {
            first = half;
            end = half + HALF;
        }
        if (collector == AGEING) {
            end = first + NURSERY;
        }
        return firstFree(first, end);
    }

    private int firstFree(int first, int end) {
        for (int cell = first; cell < end; cell++) {
            if (!kept[cell]) {
                return cell;
            }
        }
        return NONE;
    }

    private int freeCells(int first, int end) {
        int free = 0;
        for (int cell = first; cell < end; cell++) {
            if (!kept[cell]) {
                free++;
            }
        }
        return free;
    }

    private void takeCell(int cell) {
        kept[cell] = true;
        for (int f = 0; f < FIELDS; f++) {
            field[cell * FIELDS + f] = 0;
        }
        tally[cell] = 0;
        remembered[cell] = false;
        // The snapshot does not hold a new object, so nothing else would mark it.
        shade[cell] = marking ? BLACK : WHITE;
    }

    // ---- what can be come to ------------------------------------------------------------------

    private int trace(int collector, int firstRegister, int endRegister) {
        forgetSeen(collector);
        for (int r = firstRegister; r < endRegister; r++) {
            visit(register[collector * REGISTERS + r]);
        }
        followFields();
        return reached;
    }

    private void forgetSeen(int collector) {
        for (int cell = collector * CELLS; cell < (collector + 1) * CELLS; cell++) {
            seen[cell] = false;
        }
        reached = 0;
    }

    private void visit(int word) {
        if (word < REFERENCE || seen[word - REFERENCE] || reached >= CELLS) {
            return;
        }
        seen[word - REFERENCE] = true;
        queue[reached] = word - REFERENCE;
        reached++;
    }

    private void enqueue(int cell) {
        if (reached < CELLS) {
            queue[reached] = cell;
            reached++;
        }
    }

    private void followFields() {
        for (int at = 0; at < CELLS && at < reached; at++) {
            for (int f = 0; f < FIELDS; f++) {
                visit(field[queue[at] * FIELDS + f]);
            }
        }
    }

    // ---- collecting ---------------------------------------------------------------------------

    private boolean makeRoom(int collector) {
        if (collector == STEPPING) {
            paceMarking();
        }
        if (freeCell(collector) != NONE) {
            return true;
        }
        int old = AGEING * CELLS + NURSERY;
        int end = AGEING * CELLS + CELLS;
        if (collector == AGEING && freeCells(old, end) >= NURSERY) {
            evacuate(AGEING, AGEING * CELLS, old, old, end);
        } else {
            runCollection(collector);
        }
        return freeCell(collector) != NONE;
    }

    private void runCollection(int collector) {
        switch (collector) {
            case COPYING:
                int other = otherHalf();
                evacuate(COPYING, half, half + HALF, other, other + HALF);
                half = other;
                break;
            case SLIDING:
                trace(SLIDING, 0, REGISTERS);
                slideTogether();
                break;
            case COUNTING:
                dropCycles();
                break;
            case AGEING:
                trace(AGEING, 0, REGISTERS);
                sweepUnseen(AGEING);
                evacuate(AGEING, AGEING * CELLS, AGEING * CELLS + NURSERY,
                        AGEING * CELLS + NURSERY, AGEING * CELLS + CELLS);
                break;
            case STEPPING:
                // A round under way would keep all that its snapshot held; a new one is exact.
                beginMarking();
                finishMarking();
                break;
            case REVERSING:
                markByReversing();
                sweepUnseen(REVERSING);
                break;
            default:
                trace(SWEEPING, 0, REGISTERS);
                sweepUnseen(SWEEPING);
                break;
        }
    }

    private void sweepUnseen(int collector) {
        for (int cell = collector * CELLS; cell < (collector + 1) * CELLS; cell++) {
            kept[cell] = kept[cell] && seen[cell];
        }
    }

    // ---- moving: COPYING, and AGEING out of its nursery ---------------------------------------

    private int otherHalf() {
        return half == COPYING * CELLS ? COPYING * CELLS + HALF : COPYING * CELLS;
    }

    private void evacuate(int collector, int from, int fromEnd, int to, int toEnd) {
        for (int cell = from; cell < fromEnd; cell++) {
            forward[cell] = NONE;
        }
        enqueueRemembered(to, toEnd);
        for (int r = 0; r < REGISTERS; r++) {
            int at = collector * REGISTERS + r;
            register[at] = moved(register[at], from, fromEnd, to, toEnd);
        }
        for (int next = 0; next < CELLS && next < reached; next++) {
            for (int f = 0; f < FIELDS; f++) {
                int at = queue[next] * FIELDS + f;
                field[at] = moved(field[at], from, fromEnd, to, toEnd);
            }
        }
        for (int cell = from; cell < fromEnd; cell++) {
            kept[cell] = false;
        }
    }

    private void enqueueRemembered(int first, int end) {
        reached = 0;
        for (int cell = first; cell < end; cell++) {
            if (kept[cell] && remembered[cell]) {
                enqueue(cell);
            }
            // Nothing young is left to refer to when the nursery has been emptied.
            remembered[cell] = false;
        }
    }

    private int moved(int word, int from, int fromEnd, int to, int toEnd) {
        int cell = word - REFERENCE;
        if (cell < from || cell >= fromEnd) {
            return word;
        }
        if (forward[cell] == NONE) {
            int target = firstFree(to, toEnd);
            if (target == NONE) {
                return word;
            }
            kept[target] = true;
            for (int f = 0; f < FIELDS; f++) {
                field[target * FIELDS + f] = field[cell * FIELDS + f];
            }
            forward[cell] = target;
            enqueue(target);
        }
        return REFERENCE + forward[cell];
    }

    // ---- SLIDING ------------------------------------------------------------------------------

    private void slideTogether() {
        int first = SLIDING * CELLS;
        int end = first + CELLS;
        int next = first;
        for (int cell = first; cell < end; cell++) {
            if (seen[cell]) {
                forward[cell] = next;
                next++;
            }
        }
        for (int r = 0; r < REGISTERS; r++) {
            int at = SLIDING * REGISTERS + r;
            register[at] = slid(register[at]);
        }
        // From the lowest cell on: none slides onto one that has not been read yet.
        for (int cell = first; cell < end; cell++) {
            for (int f = 0; f < FIELDS && seen[cell]; f++) {
                field[forward[cell] * FIELDS + f] = slid(field[cell * FIELDS + f]);
            }
        }
        for (int cell = first; cell < end; cell++) {
            kept[cell] = cell < next;
        }
    }

    private int slid(int word) {
        return word < REFERENCE ? word : REFERENCE + forward[word - REFERENCE];
    }

    // ---- COUNTING -----------------------------------------------------------------------------

    private void addReference(int word) {
        if (word >= REFERENCE) {
            tally[word - REFERENCE]++;
        }
    }

    private void dropReference(int word) {
        reached = 0;
        lowerTally(word);
        for (int at = 0; at < CELLS && at < reached; at++) {
            int cell = queue[at];
            kept[cell] = false;
            for (int f = 0; f < FIELDS; f++) {
                lowerTally(field[cell * FIELDS + f]);
            }
        }
    }

    private void lowerTally(int word) {
        if (word < REFERENCE) {
            return;
        }
        int cell = word - REFERENCE;
        tally[cell]--;
        if (tally[cell] == 0) {
            enqueue(cell);
        }
    }

    // Objects whose references all come from other objects are kept only if one that a register
    // refers to leads to them: the others are cycles that counting alone never lets go.
    private void dropCycles() {
        int first = COUNTING * CELLS;
        int end = first + CELLS;
        for (int cell = first; cell < end; cell++) {
            trial[cell] = tally[cell];
        }
        addFieldReferences(-1);
        forgetSeen(COUNTING);
        for (int cell = first; cell < end; cell++) {
            if (kept[cell] && trial[cell] > 0) {
                visit(REFERENCE + cell);
            }
        }
        followFields();
        for (int cell = first; cell < end; cell++) {
            for (int f = 0; f < FIELDS && kept[cell] && !seen[cell]; f++) {
                int word = field[cell * FIELDS + f];
                if (word >= REFERENCE) {
                    tally[word - REFERENCE]--;
                }
            }
        }
        sweepUnseen(COUNTING);
    }

    private void addFieldReferences(int weight) {
        for (int cell = COUNTING * CELLS; cell < (COUNTING + 1) * CELLS; cell++) {
            for (int f = 0; f < FIELDS && kept[cell]; f++) {
                int word = field[cell * FIELDS + f];
                if (word >= REFERENCE) {
                    trial[word - REFERENCE] += weight;
                }
            }
        }
    }

    // ---- STEPPING -----------------------------------------------------------------------------

    private void paceMarking() {
        int first = STEPPING * CELLS;
        if (!marking && freeCells(first, first + CELLS) < START_BELOW) {
            beginMarking();
        }
        for (int step = 0; step < PACE && marking; step++) {
            if (!blackenOne()) {
                endMarking();
            }
        }
    }

    private void beginMarking() {
        for (int cell = STEPPING * CELLS; cell < (STEPPING + 1) * CELLS; cell++) {
            shade[cell] = WHITE;
        }
        for (int r = 0; r < REGISTERS; r++) {
            shadeGrey(register[STEPPING * REGISTERS + r]);
        }
        marking = true;
    }

    private void shadeGrey(int word) {
        if (word >= REFERENCE && shade[word - REFERENCE] == WHITE) {
            shade[word - REFERENCE] = GREY;
        }
    }

    private boolean blackenOne() {
        for (int cell = STEPPING * CELLS; cell < (STEPPING + 1) * CELLS; cell++) {
            if (shade[cell] == GREY) {
                shade[cell] = BLACK;
                for (int f = 0; f < FIELDS; f++) {
                    shadeGrey(field[cell * FIELDS + f]);
                }
                return true;
            }
        }
        return false;
    }

    private void finishMarking() {
        boolean more = true;
        for (int step = 0; step < CELLS && more; step++) {
            more = blackenOne();
        }
        endMarking();
    }

    private void endMarking() {
        for (int cell = STEPPING * CELLS; cell < (STEPPING + 1) * CELLS; cell++) {
            kept[cell] = kept[cell] && shade[cell] != WHITE;
        }
        marking = false;
    }

    // ---- REVERSING ----------------------------------------------------------------------------

    private void markByReversing() {
        forgetSeen(REVERSING);
        for (int r = 0; r < REGISTERS; r++) {
            int cell = cellOf(REVERSING, r);
            if (cell != NONE && !seen[cell]) {
                walkAndReturn(cell);
            }
        }
    }

    // The way back stands in the fields themselves: the field that was followed refers to where
    // the walk came from until the walk returns through it.
    private void walkAndReturn(int start) {
        int back = NONE;
        int here = start;
        seen[here] = true;
        turn[here] = 0;
        // Each cell is entered once, left once, and passes each of its fields once.
        for (int step = 0; step < CELLS * (FIELDS + 2) && here != NONE; step++) {
            int at = here * FIELDS + turn[here];
            if (turn[here] == FIELDS) {
                int child = here;
                here = back;
                back = here == NONE ? NONE : returnThrough(here, child);
            } else if (field[at] < REFERENCE || seen[field[at] - REFERENCE]) {
                turn[here]++;
            } else {
                int child = field[at] - REFERENCE;
                field[at] = back == NONE ? 0 : REFERENCE + back;
                back = here;
                here = child;
                seen[here] = true;
                turn[here] = 0;
            }
        }
    }

    private int returnThrough(int cell, int child) {
        int at = cell * FIELDS + turn[cell];
        int before = field[at];
        field[at] = REFERENCE + child;
        turn[cell]++;
        return before < REFERENCE ? NONE : before - REFERENCE;
    }

    // ---- agreeing -----------------------------------------------------------------------------

    private boolean pairsUp(int collector, int other) {
        for (int slot = 0; slot < CELLS; slot++) {
            partner[collector * CELLS + slot] = NONE;
            partnerBack[other * CELLS + slot] = NONE;
        }
        reached = 0;
        for (int r = 0; r < REGISTERS; r++) {
            int word = register[collector * REGISTERS + r];
            if (!pairWords(word, register[other * REGISTERS + r])) {
                return false;
            }
        }
        for (int at = 0; at < CELLS && at < reached; at++) {
            int cell = queue[at];
            for (int f = 0; f < FIELDS; f++) {
                int word = field[cell * FIELDS + f];
                if (!pairWords(word, field[partner[cell] * FIELDS + f])) {
                    return false;
                }
            }
        }
        return true;
    }

    private boolean pairWords(int word, int otherWord) {
        if (word < REFERENCE || otherWord < REFERENCE) {
            return word == otherWord;
        }
        int cell = word - REFERENCE;
        int otherCell = otherWord - REFERENCE;
        if (partner[cell] == NONE && partnerBack[otherCell] == NONE) {
            partner[cell] = otherCell;
            partnerBack[otherCell] = cell;
            enqueue(cell);
        }
        return partner[cell] == otherCell;
    }

    // ---- soundness ----------------------------------------------------------------------------

    private boolean wordsAreSound(int collector) {
        for (int r = 0; r < REGISTERS; r++) {
            if (!wordIsSound(collector, register[collector * REGISTERS + r])) {
                return false;
            }
        }
        for (int cell = collector * CELLS; cell < (collector + 1) * CELLS; cell++) {
            for (int f = 0; f < FIELDS && kept[cell]; f++) {
                if (!wordIsSound(collector, field[cell * FIELDS + f])) {
                    return false;
                }
            }
        }
        return true;
    }

    private boolean wordIsSound(int collector, int word) {
        if (word < REFERENCE) {
            return isNumber(word);
        }
        int cell = word - REFERENCE;
        return cell >= collector * CELLS && cell < (collector + 1) * CELLS && kept[cell];
    }

    private boolean otherHalfIsEmpty() {
        int other = otherHalf();
        return freeCells(other, other + HALF) == HALF;
    }

    private boolean slidCellsHaveNoGap() {
        for (int cell = SLIDING * CELLS + 1; cell < (SLIDING + 1) * CELLS; cell++) {
            if (kept[cell] && !kept[cell - 1]) {
                return false;
            }
        }
        return true;
    }

    private boolean talliesAreRight() {
        int first = COUNTING * CELLS;
        for (int cell = first; cell < first + CELLS; cell++) {
            trial[cell] = 0;
        }
        for (int r = 0; r < REGISTERS; r++) {
            int cell = cellOf(COUNTING, r);
            if (cell != NONE) {
                trial[cell]++;
            }
        }
        addFieldReferences(1);
        for (int cell = first; cell < first + CELLS; cell++) {
            if (kept[cell] && (trial[cell] != tally[cell] || trial[cell] == 0)) {
                return false;
            }
        }
        return true;
    }

    private boolean oldCellsAreRemembered() {
        int end = AGEING * CELLS + CELLS;
        for (int cell = AGEING * CELLS + NURSERY; cell < end; cell++) {
            for (int f = 0; f < FIELDS && kept[cell] && !remembered[cell]; f++) {
                if (isYoung(field[cell * FIELDS + f])) {
                    return false;
                }
            }
        }
        return true;
    }

    // While STEPPING marks, all that a register or a black cell refers to is either marked already
    // or will be come to from a grey cell.
    private boolean nothingWillBeMissed() {
        if (!marking) {
            return true;
        }
        int first = STEPPING * CELLS;
        forgetSeen(STEPPING);
        for (int cell = first; cell < first + CELLS; cell++) {
            if (shade[cell] != WHITE) {
                seen[cell] = true;
            }
            if (shade[cell] == GREY) {
                enqueue(cell);
            }
        }
        followFields();
        boolean missed = false;
        for (int r = 0; r < REGISTERS; r++) {
            int cell = cellOf(STEPPING, r);
            missed = missed || cell != NONE && !seen[cell];
        }
        for (int cell = first; cell < first + CELLS; cell++) {
            for (int f = 0; f < FIELDS && shade[cell] == BLACK; f++) {
                int word = field[cell * FIELDS + f];
                missed = missed || word >= REFERENCE && !seen[word - REFERENCE];
            }
        }
        return !missed;
    }
}
