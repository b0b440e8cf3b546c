/**
 * Times of events with gaps between them that must be no longer or no shorter.
 * What each call does and answers stands in ../shared/DOC.md.
 */
public final class TimeGaps {
    public static final int INVALID = -1;
    public static final int NOT_FOUND = -2;
    public static final int WRONG_STATE = -3;
    public static final int FULL = -4;
    public static final int DENIED = -5;
    public static final int NO_BOUND = -100000;

    private static final int EVENT_LIMIT = 10;
    private static final int GAP_LIMIT = 24;
    private static final int STEP_LIMIT = GAP_LIMIT + 4 * (EVENT_LIMIT - 1);
    private static final int LETTER_LIMIT = 5;
    private static final int DIGIT_LIMIT = 3;
    private static final int NUMBER_LIMIT = 999;
    private static final int ENTRY_LIMIT = 40;
    private static final int UNDO_LIMIT = 8;
    private static final int SLOT_LIMIT = 2;
    private static final int TAPE_LIMIT = 900;
    private static final int TEXT_LIMIT = 1024;
    private static final int BYTES_OF_APPEND = 20;

    private static final int START = 0;
    private static final int FIRST_END = 100;
    private static final int MOST = 0;
    private static final int LEAST = 1;
    private static final int UNPINNED = -1;
    private static final int NONE = -1;

    private static final int BY_END = 100;
    private static final int BY_NOUGHT = 200;
    private static final int FROM_START_BY_PIN = 300;
    private static final int TO_START_BY_PIN = 400;

    private static final int OPENED = 0;
    private static final int TOLD = 1;
    private static final int DROPPED = 2;
    private static final int NUMBER_SET = 3;
    private static final int TURNED = 4;
    private static final int PINNED = 5;
    private static final int UNPINNED_AGAIN = 6;
    private static final int END_SET = 7;
    private static final int GAP_DENIED = 8;
    private static final int RENAMED = 9;
    private static final int REVERSED = 10;
    private static final int TIGHTENED = 11;
    private static final int THINNED = 12;
    private static final int ALL_PINNED = 13;

    private final Plan plan = new Plan();
    private final Net net = new Net();
    // What would be is tried here, so that net always tells what is.
    private final Net trial = new Net();
    private final History history = new History();
    private final Slots slots = new Slots();
    private final SetupReader reader = new SetupReader();
    private final Tape tape = reader.tape;
    private final Text text = new Text();
    private int errorAt = NOT_FOUND;

    public TimeGaps() {
        plan.clear();
        net.build(plan, NONE);
    }

    // ---- setup

    public int append(int a, int b, int c, int d, int e) {
        if (tape.length + BYTES_OF_APPEND > TAPE_LIMIT) {
            return INVALID;
        }
        tape.putFourBytes(a);
        tape.putFourBytes(b);
        tape.putFourBytes(c);
        tape.putFourBytes(d);
        tape.putFourBytes(e);
        return tape.length;
    }

    public int truncate(int n) {
        if (n < 0 || n > tape.length) {
            return INVALID;
        }
        tape.length -= n;
        return tape.length;
    }

    public int load() {
        boolean good = reader.read();
        errorAt = good ? NOT_FOUND : reader.position();
        tape.length = 0;
        if (!good) {
            return INVALID;
        }
        plan.copyFrom(reader.draft);
        slots.clear();
        history.clear();
        net.build(plan, NONE);
        return plan.gaps;
    }

    public int errorPosition() {
        return errorAt;
    }

    // ---- operations

    public int open() {
        if (!isNewNameOnTape()) {
            return INVALID;
        }
        if (plan.events == EVENT_LIMIT) {
            return FULL;
        }
        history.remember(plan);
        int event = plan.addEvent(tape, 0, tape.length);
        tape.length = 0;
        finish(OPENED, event, plan.events);
        return event;
    }

    public int tell(int one, int other, int kind, int n) {
        if (!isTellable(one, other, kind, n)) {
            return INVALID;
        }
        if (plan.gaps == GAP_LIMIT) {
            return FULL;
        }
        history.remember(plan);
        if (net.leastRing(one, other, kind, n) < 0) {
            plan.log.note(GAP_DENIED, kind, n);
            return DENIED;
        }
        int gap = plan.addGap(one, other, kind, n, true);
        finish(TOLD, gap, n);
        return gap;
    }

    public int drop(int gap) {
        if (!isGap(gap)) {
            return INVALID;
        }
        int n = plan.numbers[gap];
        history.remember(plan);
        plan.removeGap(gap);
        finish(DROPPED, gap, n);
        return plan.gaps;
    }

    public int set(int gap, int n) {
        if (!isGap(gap) || !isNumber(n)) {
            return INVALID;
        }
        int former = plan.numbers[gap];
        if (former == n) {
            return NOT_FOUND;
        }
        // The least ring through a step never needs that step a second time,
        // so the bound back is the same with the former N as without the gap.
        if (plan.ons[gap] && ringOfGap(gap, n) < 0) {
            return DENIED;
        }
        history.remember(plan);
        plan.numbers[gap] = n;
        finish(NUMBER_SET, gap, former);
        return former;
    }

    public int turn(int gap) {
        if (!isGap(gap)) {
            return INVALID;
        }
        boolean on = !plan.ons[gap];
        if (on && ringOfGap(gap, plan.numbers[gap]) < 0) {
            return DENIED;
        }
        history.remember(plan);
        plan.ons[gap] = on;
        finish(TURNED, gap, asNumber(on));
        return asNumber(on);
    }

    public int pin(int event, int time) {
        if (!isEvent(event) || !isTime(time)) {
            return INVALID;
        }
        if (!isPinnable(event)) {
            return WRONG_STATE;
        }
        if (!net.allows(event, time)) {
            return DENIED;
        }
        history.remember(plan);
        plan.pinTimes[event] = time;
        finish(PINNED, event, time);
        return plan.countPinned();
    }

    public int unpin(int event) {
        if (!isEvent(event)) {
            return INVALID;
        }
        if (!plan.isPinned(event)) {
            return WRONG_STATE;
        }
        int former = plan.pinTimes[event];
        history.remember(plan);
        plan.pinTimes[event] = UNPINNED;
        finish(UNPINNED_AGAIN, event, former);
        return former;
    }

    public int end(int end) {
        if (end < 1 || end > NUMBER_LIMIT) {
            return INVALID;
        }
        int former = plan.endTime;
        if (end == former) {
            return NOT_FOUND;
        }
        // All steps by END begin at the START, so no bound to the START
        // (and no earliest time) hangs on END.
        if (end < net.greatestEarliest()) {
            return DENIED;
        }
        history.remember(plan);
        plan.endTime = end;
        finish(END_SET, end, former);
        return former;
    }

    public int rename(int event) {
        if (!isEvent(event) || !isNewNameOnTape()) {
            return INVALID;
        }
        if (event == START) {
            return WRONG_STATE;
        }
        int letters = tape.length;
        history.remember(plan);
        plan.nameEvent(event, tape, 0, letters);
        tape.length = 0;
        finish(RENAMED, event, letters);
        return letters;
    }

    public int reverse(int gap) {
        if (!isGap(gap)) {
            return INVALID;
        }
        int one = plan.ones[gap];
        int other = plan.others[gap];
        if (plan.ons[gap]) {
            tryWithout(gap);
            if (trial.leastRing(other, one, plan.kinds[gap], plan.numbers[gap]) < 0) {
                return DENIED;
            }
        }
        int on = asNumber(plan.ons[gap]);
        history.remember(plan);
        plan.ones[gap] = other;
        plan.others[gap] = one;
        finish(REVERSED, gap, on);
        return on;
    }

    public int tighten() {
        int count = 0;
        for (int gap = 0; gap < plan.gaps; gap++) {
            count += asNumber(isLoose(gap));
        }
        if (count == 0) {
            return NOT_FOUND;
        }
        history.remember(plan);
        for (int gap = 0; gap < plan.gaps; gap++) {
            if (isLoose(gap)) {
                plan.numbers[gap] = tightNumber(gap);
            }
        }
        finish(TIGHTENED, count, net.room());
        return count;
    }

    public int thin() {
        int gap = firstNeedless(0);
        if (gap == NOT_FOUND) {
            return NOT_FOUND;
        }
        history.remember(plan);
        int before = plan.gaps;
        // A needless gap that goes changes no bound (net stays right), and what was
        // needed with it is needed without it: those below are not looked at again.
        for (int i = 0; i < GAP_LIMIT && gap != NOT_FOUND; i++) {
            plan.removeGap(gap);
            gap = firstNeedless(gap);
        }
        int dropped = before - plan.gaps;
        finish(THINNED, dropped, plan.gaps);
        return dropped;
    }

    public int pinAll() {
        int count = plan.events - 1 - plan.countPinned();
        if (count == 0) {
            return NOT_FOUND;
        }
        history.remember(plan);
        // All earliest times hold together, so none moves when another is pinned.
        for (int event = 1; event < plan.events; event++) {
            if (!plan.isPinned(event)) {
                plan.pinTimes[event] = net.earliest(event);
            }
        }
        finish(ALL_PINNED, count, plan.countPinned());
        return count;
    }

    // ---- slots and undo

    public int keep(int slot) {
        if (!isSlot(slot)) {
            return INVALID;
        }
        slots.plans[slot].copyFrom(plan);
        slots.filled[slot] = true;
        return plan.gaps;
    }

    public int restore(int slot) {
        if (!isSlot(slot)) {
            return INVALID;
        }
        if (!slots.filled[slot]) {
            return NOT_FOUND;
        }
        history.remember(plan);
        plan.copyFrom(slots.plans[slot]);
        net.build(plan, NONE);
        return plan.gaps;
    }

    public int undo() {
        if (history.count == 0) {
            return INVALID;
        }
        history.bringBack(plan);
        net.build(plan, NONE);
        return history.count;
    }

    // ---- events and gaps

    public int value(int what) {
        switch (what) {
            case 0: return plan.endTime;
            case 1: return plan.events;
            case 2: return plan.gaps;
            case 3: return plan.countOn();
            case 4: return plan.countPinned();
            case 5: return net.steps;
            case 6: return countTight();
            case 7: return countNeeded();
            case 8: return net.countSettled();
            case 9: return net.greatestEarliest();
            case 10: return net.room();
            case 11: return plan.log.count;
            case 12: return history.count;
            default: return INVALID;
        }
    }

    public int letter(int event, int i) {
        if (!isEvent(event) || i < 0) {
            return INVALID;
        }
        if (i >= plan.letterCounts[event]) {
            return NOT_FOUND;
        }
        return plan.letterOf(event, i) - 'a' + 1;
    }

    public int gap(int gap, int what) {
        if (!isGap(gap)) {
            return INVALID;
        }
        switch (what) {
            case 0: return plan.ones[gap];
            case 1: return plan.others[gap];
            case 2: return plan.kinds[gap];
            case 3: return plan.numbers[gap];
            case 4: return asNumber(plan.ons[gap]);
            case 5: return asNumber(isTight(gap));
            case 6: return asNumber(isNeeded(gap));
            case 7: return plan.ons[gap] ? lengthOf(gap) - boundOf(gap) : 0;
            default: return INVALID;
        }
    }

    public int event(int event, int what) {
        if (!isEvent(event)) {
            return INVALID;
        }
        switch (what) {
            case 0: return net.earliest(event);
            case 1: return net.latest(event);
            case 2: return net.possibleTimes(event);
            case 3: return plan.isPinned(event) ? plan.pinTimes[event] : NOT_FOUND;
            case 4: return plan.countOnOf(event);
            default: return INVALID;
        }
    }

    // ---- bounds

    public int bound(int one, int other) {
        return isEvent(one) && isEvent(other) ? net.between(one, other) : NO_BOUND;
    }

    public int way(int one, int other, int i) {
        if (!areTwoEvents(one, other) || i < 0) {
            return INVALID;
        }
        return net.stepOfWay(one, other, i);
    }

    public int wayLength(int one, int other) {
        return areTwoEvents(one, other) ? net.stepsBetween(one, other) : INVALID;
    }

    public int relation(int one, int other) {
        return areTwoEvents(one, other) ? relationOf(one, other) : INVALID;
    }

    public int play(int one, int other) {
        if (!areTwoEvents(one, other)) {
            return INVALID;
        }
        return net.between(one, other) + net.between(other, one);
    }

    public int pairs(int how) {
        if (how < 0 || how > 5) {
            return INVALID;
        }
        int count = 0;
        for (int one = 0; one < plan.events; one++) {
            for (int other = one + 1; other < plan.events; other++) {
                count += asNumber(relationOf(one, other) == how);
            }
        }
        return count;
    }

    public int direct(int one, int other) {
        if (!areTwoEvents(one, other)) {
            return INVALID;
        }
        for (int gap = 0; gap < plan.gaps; gap++) {
            if (isTight(gap) && beginOf(gap) == one && finishOf(gap) == other) {
                return gap;
            }
        }
        return NOT_FOUND;
    }

    public int ordered(int i) {
        if (i < 0) {
            return INVALID;
        }
        for (int event = 0; event < plan.events; event++) {
            if (net.placeByEarliest(event) == i) {
                return event;
            }
        }
        return NOT_FOUND;
    }

    public int middle(int event) {
        if (!isEvent(event)) {
            return INVALID;
        }
        trial.copyBounds(net);
        for (int each = 1; each <= event; each++) {
            trial.addPin(each, (trial.earliest(each) + trial.latest(each)) / 2);
        }
        return trial.earliest(event);
    }

    public int lastly(int i) {
        if (i < 0) {
            return INVALID;
        }
        for (int event = 0; event < plan.events; event++) {
            if (net.placeByLatest(event) == i) {
                return event;
            }
        }
        return NOT_FOUND;
    }

    public int can(int event, int time) {
        return isEvent(event) ? asNumber(net.allows(event, time)) : INVALID;
    }

    public int widest() {
        int found = NOT_FOUND;
        int greatest = 0;
        for (int one = 0; one < plan.events; one++) {
            for (int other = 0; other < plan.events; other++) {
                int bound = net.between(one, other);
                if (one != other && (found == NOT_FOUND || bound > greatest)) {
                    found = 10 * one + other;
                    greatest = bound;
                }
            }
        }
        return found;
    }

    public int freest() {
        int freest = START;
        for (int event = 1; event < plan.events; event++) {
            if (net.possibleTimes(event) > net.possibleTimes(freest)) {
                freest = event;
            }
        }
        return freest;
    }

    // ---- reasons

    public int why(int one, int other, int kind, int n, int depth) {
        if (!isTellable(one, other, kind, n) || depth < 0 || depth > 2) {
            return INVALID;
        }
        int sum = net.leastRing(one, other, kind, n);
        if (sum >= 0) {
            return depth == 0 ? 0 : NOT_FOUND;
        }
        switch (depth) {
            case 0: return net.oneStepDenies(one, other, kind, n) ? 1 : 2;
            case 1: return -sum;
            default: return stepOfRing(one, other, kind, 0);
        }
    }

    public int ring(int one, int other, int kind, int n, int i) {
        if (!isTellable(one, other, kind, n) || i < 0) {
            return INVALID;
        }
        if (net.leastRing(one, other, kind, n) >= 0) {
            return NOT_FOUND;
        }
        return stepOfRing(one, other, kind, i);
    }

    public int culprit(int one, int other, int kind, int n) {
        if (!isTellable(one, other, kind, n)) {
            return INVALID;
        }
        if (net.leastRing(one, other, kind, n) >= 0) {
            return NOT_FOUND;
        }
        for (int gap = 0; gap < plan.gaps; gap++) {
            if (plan.ons[gap]) {
                tryWithout(gap);
                if (trial.leastRing(one, other, kind, n) >= 0) {
                    return gap;
                }
            }
        }
        return NOT_FOUND;
    }

    public int tightest(int one, int other, int kind) {
        if (!areTwoEvents(one, other) || !isKind(kind)) {
            return INVALID;
        }
        return tightestNumber(one, other, kind);
    }

    public int spare(int gap) {
        if (!isGap(gap)) {
            return INVALID;
        }
        if (!plan.ons[gap]) {
            return WRONG_STATE;
        }
        int tightest = tightestNumber(plan.ones[gap], plan.others[gap], plan.kinds[gap]);
        return Math.abs(plan.numbers[gap] - tightest);
    }

    public int needless() {
        return firstNeedless(0);
    }

    public int needs(int event) {
        if (!isEvent(event)) {
            return INVALID;
        }
        int count = 0;
        for (int gap = 0; gap < plan.gaps; gap++) {
            count += asNumber(plan.hasEvent(gap, event) && isNeeded(gap));
        }
        return count;
    }

    // ---- what would be

    public int ifTold(int one, int other, int kind, int n, int what) {
        if (!isTellable(one, other, kind, n) || !isChange(what)) {
            return INVALID;
        }
        if (net.leastRing(one, other, kind, n) < 0) {
            return DENIED;
        }
        trial.copyBounds(net);
        trial.addGapStep(one, other, kind, n);
        return changeOnTrial(what);
    }

    public int ifDropped(int gap, int what) {
        if (!isGap(gap) || !isChange(what)) {
            return INVALID;
        }
        tryWithout(gap);
        return changeOnTrial(what);
    }

    public int ifTurned(int gap, int what) {
        if (!isGap(gap) || !isChange(what)) {
            return INVALID;
        }
        if (plan.ons[gap]) {
            tryWithout(gap);
            return changeOnTrial(what);
        }
        return ifTold(plan.ones[gap], plan.others[gap], plan.kinds[gap], plan.numbers[gap], what);
    }

    public int ifPinned(int event, int time, int what) {
        if (!isEvent(event) || !isTime(time) || !isChange(what)) {
            return INVALID;
        }
        if (!isPinnable(event)) {
            return WRONG_STATE;
        }
        if (!net.allows(event, time)) {
            return DENIED;
        }
        trial.copyBounds(net);
        trial.addPin(event, time);
        return changeOnTrial(what);
    }

    public int leastEnd() {
        return Math.max(1, net.greatestEarliest());
    }

    public int slowest() {
        int slowest = NOT_FOUND;
        int least = 0;
        for (int gap = 0; gap < plan.gaps; gap++) {
            if (plan.ons[gap]) {
                tryWithout(gap);
                int greatest = trial.greatestEarliest();
                if (slowest == NOT_FOUND || greatest < least) {
                    slowest = gap;
                    least = greatest;
                }
            }
        }
        return slowest;
    }

    // ---- log, rates

    public int log(int i, int what) {
        if (i < 0 || what < 0 || what > 2) {
            return INVALID;
        }
        return i < plan.log.count ? plan.log.part(i, what) : NOT_FOUND;
    }

    public float tightShare() {
        int on = plan.countOn();
        return on == 0 ? 0f : (float) countTight() / (float) on;
    }

    public double meanRoom() {
        return plan.events == 0 ? 0.0 : (double) net.room() / (double) plan.events;
    }

    // ---- texts

    public int listLength() {
        text.writeList(plan, net);
        return text.length;
    }

    public int listByte(int i) {
        if (i < 0) {
            return INVALID;
        }
        text.writeList(plan, net);
        return text.byteAt(i);
    }

    public int setupLength() {
        text.writeSetup(plan);
        return text.length;
    }

    public int setupByte(int i) {
        if (i < 0) {
            return INVALID;
        }
        text.writeSetup(plan);
        return text.byteAt(i);
    }

    // ---- arguments

    private boolean isEvent(int event) {
        return event >= 0 && event < plan.events;
    }

    private boolean areTwoEvents(int one, int other) {
        return isEvent(one) && isEvent(other) && one != other;
    }

    private boolean isGap(int gap) {
        return gap >= 0 && gap < plan.gaps;
    }

    private boolean isTellable(int one, int other, int kind, int n) {
        return areTwoEvents(one, other) && isKind(kind) && isNumber(n);
    }

    private boolean isTime(int time) {
        return time >= 0 && time <= plan.endTime;
    }

    private boolean isPinnable(int event) {
        return event != START && !plan.isPinned(event);
    }

    private boolean isNewNameOnTape() {
        return tape.isName(0, tape.length) && plan.findEvent(tape, 0, tape.length) == NONE;
    }

    private static boolean isKind(int kind) {
        return kind == MOST || kind == LEAST;
    }

    private static boolean isNumber(int n) {
        return n >= 0 && n <= NUMBER_LIMIT;
    }

    private static boolean isSlot(int slot) {
        return slot >= 0 && slot < SLOT_LIMIT;
    }

    private static boolean isChange(int what) {
        return what >= 0 && what <= 2;
    }

    private static int asNumber(boolean yes) {
        return yes ? 1 : 0;
    }

    // ---- operations, reasons and changes

    private void finish(int kind, int first, int second) {
        plan.log.note(kind, first, second);
        net.build(plan, NONE);
    }

    private int beginOf(int gap) {
        return stepBegin(plan.ones[gap], plan.others[gap], plan.kinds[gap]);
    }

    private int finishOf(int gap) {
        return stepFinish(plan.ones[gap], plan.others[gap], plan.kinds[gap]);
    }

    private int lengthOf(int gap) {
        return stepLength(plan.kinds[gap], plan.numbers[gap]);
    }

    private int boundOf(int gap) {
        return net.between(beginOf(gap), finishOf(gap));
    }

    private int ringOfGap(int gap, int n) {
        return net.leastRing(plan.ones[gap], plan.others[gap], plan.kinds[gap], n);
    }

    private boolean isTight(int gap) {
        return plan.ons[gap] && lengthOf(gap) == boundOf(gap);
    }

    private boolean isNeeded(int gap) {
        if (!isTight(gap)) {
            return false;
        }
        trial.build(plan, gap);
        return trial.between(beginOf(gap), finishOf(gap)) > boundOf(gap);
    }

    private boolean isLoose(int gap) {
        return plan.ons[gap] && !isTight(gap) && tightNumber(gap) >= 0;
    }

    private int tightNumber(int gap) {
        return plan.kinds[gap] == MOST ? boundOf(gap) : -boundOf(gap);
    }

    private int tightestNumber(int one, int other, int kind) {
        if (kind == MOST) {
            int least = Math.max(0, -net.between(other, one));
            return least <= NUMBER_LIMIT ? least : NOT_FOUND;
        }
        int greatest = Math.min(NUMBER_LIMIT, net.between(one, other));
        return greatest >= 0 ? greatest : NOT_FOUND;
    }

    private int countTight() {
        int count = 0;
        for (int gap = 0; gap < plan.gaps; gap++) {
            count += asNumber(isTight(gap));
        }
        return count;
    }

    private int countNeeded() {
        int count = 0;
        for (int gap = 0; gap < plan.gaps; gap++) {
            count += asNumber(isNeeded(gap));
        }
        return count;
    }

    private int firstNeedless(int from) {
        for (int gap = from; gap < plan.gaps; gap++) {
            if (plan.ons[gap] && !isNeeded(gap)) {
                return gap;
            }
        }
        return NOT_FOUND;
    }

    private int relationOf(int one, int other) {
        int most = net.between(one, other);
        int least = -net.between(other, one);
        if (least == 0 && most == 0) {
            return 0;
        }
        if (least > 0) {
            return 1;
        }
        if (most < 0) {
            return 2;
        }
        if (least == 0) {
            return 3;
        }
        return most == 0 ? 4 : 5;
    }

    private int stepOfRing(int one, int other, int kind, int i) {
        return net.stepOfWay(stepFinish(one, other, kind), stepBegin(one, other, kind), i);
    }

    private void tryWithout(int gap) {
        // A gap that is not tight lies on no way, so no bound hangs on it.
        if (isTight(gap)) {
            trial.build(plan, gap);
        } else {
            trial.copyBounds(net);
        }
    }

    private int changeOnTrial(int what) {
        switch (what) {
            case 0: return net.countOtherBounds(trial);
            case 1: return net.countOtherTimes(trial);
            default: return trial.room();
        }
    }

    // ---- the step of a gap

    private static int stepBegin(int one, int other, int kind) {
        return kind == MOST ? one : other;
    }

    private static int stepFinish(int one, int other, int kind) {
        return kind == MOST ? other : one;
    }

    private static int stepLength(int kind, int n) {
        return kind == MOST ? n : -n;
    }

    /** Everything that operations change. */
    private static final class Plan {
        private final int[] letters = new int[EVENT_LIMIT * LETTER_LIMIT];
        private final int[] letterCounts = new int[EVENT_LIMIT];
        private final int[] pinTimes = new int[EVENT_LIMIT];
        private final int[] ones = new int[GAP_LIMIT];
        private final int[] others = new int[GAP_LIMIT];
        private final int[] kinds = new int[GAP_LIMIT];
        private final int[] numbers = new int[GAP_LIMIT];
        private final boolean[] ons = new boolean[GAP_LIMIT];
        private final Log log = new Log();
        private int endTime;
        private int events;
        private int gaps;

        private void clear() {
            endTime = FIRST_END;
            events = 0;
            gaps = 0;
            log.clear();
            addStart();
        }

        private void addStart() {
            String name = "start";
            for (int i = 0; i < name.length() && i < LETTER_LIMIT; i++) {
                letters[START * LETTER_LIMIT + i] = name.charAt(i);
            }
            letterCounts[START] = name.length();
            pinTimes[START] = UNPINNED;
            events = 1;
        }

        private void copyFrom(Plan from) {
            System.arraycopy(from.letters, 0, letters, 0, letters.length);
            System.arraycopy(from.letterCounts, 0, letterCounts, 0, EVENT_LIMIT);
            System.arraycopy(from.pinTimes, 0, pinTimes, 0, EVENT_LIMIT);
            System.arraycopy(from.ones, 0, ones, 0, GAP_LIMIT);
            System.arraycopy(from.others, 0, others, 0, GAP_LIMIT);
            System.arraycopy(from.kinds, 0, kinds, 0, GAP_LIMIT);
            System.arraycopy(from.numbers, 0, numbers, 0, GAP_LIMIT);
            for (int gap = 0; gap < GAP_LIMIT; gap++) {
                ons[gap] = from.ons[gap];
            }
            log.copyFrom(from.log);
            endTime = from.endTime;
            events = from.events;
            gaps = from.gaps;
        }

        private int addEvent(Tape tape, int from, int count) {
            if (events >= EVENT_LIMIT) {
                return NONE;
            }
            int event = events;
            pinTimes[event] = UNPINNED;
            events++;
            nameEvent(event, tape, from, count);
            return event;
        }

        private void nameEvent(int event, Tape tape, int from, int count) {
            for (int i = 0; i < count && i < LETTER_LIMIT; i++) {
                letters[event * LETTER_LIMIT + i] = tape.byteAt(from + i);
            }
            letterCounts[event] = Math.min(count, LETTER_LIMIT);
        }

        private int letterOf(int event, int i) {
            return letters[event * LETTER_LIMIT + i];
        }

        private int findEvent(Tape tape, int from, int count) {
            for (int event = 0; event < events; event++) {
                if (isNamed(event, tape, from, count)) {
                    return event;
                }
            }
            return NONE;
        }

        private boolean isNamed(int event, Tape tape, int from, int count) {
            if (letterCounts[event] != count) {
                return false;
            }
            for (int i = 0; i < count; i++) {
                if (letterOf(event, i) != tape.byteAt(from + i)) {
                    return false;
                }
            }
            return true;
        }

        private int addGap(int one, int other, int kind, int n, boolean on) {
            if (gaps >= GAP_LIMIT) {
                return NONE;
            }
            int gap = gaps;
            ones[gap] = one;
            others[gap] = other;
            kinds[gap] = kind;
            numbers[gap] = n;
            ons[gap] = on;
            gaps++;
            return gap;
        }

        private void removeGap(int gap) {
            for (int i = gap; i + 1 < gaps; i++) {
                ones[i] = ones[i + 1];
                others[i] = others[i + 1];
                kinds[i] = kinds[i + 1];
                numbers[i] = numbers[i + 1];
                ons[i] = ons[i + 1];
            }
            gaps--;
        }

        private boolean isPinned(int event) {
            return pinTimes[event] != UNPINNED;
        }

        private boolean hasEvent(int gap, int event) {
            return ones[gap] == event || others[gap] == event;
        }

        private int countPinned() {
            int count = 0;
            for (int event = 0; event < events; event++) {
                count += asNumber(isPinned(event));
            }
            return count;
        }

        private int countOn() {
            int count = 0;
            for (int gap = 0; gap < gaps; gap++) {
                count += asNumber(ons[gap]);
            }
            return count;
        }

        private int countOnOf(int event) {
            int count = 0;
            for (int gap = 0; gap < gaps; gap++) {
                count += asNumber(ons[gap] && hasEvent(gap, event));
            }
            return count;
        }
    }

    /** The latest entries; a row that runs round, so that none has to move. */
    private static final class Log {
        private static final int PARTS = 3;
        private final int[] parts = new int[ENTRY_LIMIT * PARTS];
        private int oldest;
        private int count;

        private void clear() {
            oldest = 0;
            count = 0;
        }

        private void copyFrom(Log from) {
            System.arraycopy(from.parts, 0, parts, 0, parts.length);
            oldest = from.oldest;
            count = from.count;
        }

        private void note(int kind, int first, int second) {
            if (count == ENTRY_LIMIT) {
                oldest = (oldest + 1) % ENTRY_LIMIT;
                count--;
            }
            int at = (oldest + count) % ENTRY_LIMIT * PARTS;
            parts[at] = kind;
            parts[at + 1] = first;
            parts[at + 2] = second;
            count++;
        }

        private int part(int i, int what) {
            return parts[(oldest + i) % ENTRY_LIMIT * PARTS + what];
        }
    }

    /** The steps of a plan in their order, and the bounds that follow from them. */
    private static final class Net {
        // A weight is a sum of LENGTHs times SCALE plus the number of steps: the
        // least weight is then the least sum and, of several, that of the fewest
        // steps. A way has fewer steps than SCALE, as it meets no event twice.
        private static final int SCALE = 64;
        private static final int FAR = 1 << 28;
        private final int[] begins = new int[STEP_LIMIT];
        private final int[] finishes = new int[STEP_LIMIT];
        private final int[] lengths = new int[STEP_LIMIT];
        private final int[] codes = new int[STEP_LIMIT];
        private final int[] weights = new int[EVENT_LIMIT * EVENT_LIMIT];
        private int steps;
        private int events;

        /** The gap leftOut (or NONE) counts as one that is off. */
        private void build(Plan plan, int leftOut) {
            events = plan.events;
            collectSteps(plan, leftOut);
            startWeights();
            closeWeights();
        }

        private void collectSteps(Plan plan, int leftOut) {
            steps = 0;
            for (int gap = 0; gap < plan.gaps; gap++) {
                if (plan.ons[gap] && gap != leftOut) {
                    int one = plan.ones[gap];
                    int other = plan.others[gap];
                    int kind = plan.kinds[gap];
                    collect(stepBegin(one, other, kind), stepFinish(one, other, kind),
                            stepLength(kind, plan.numbers[gap]), gap);
                }
            }
            for (int event = 1; event < plan.events; event++) {
                collect(START, event, plan.endTime, BY_END + event);
                collect(event, START, 0, BY_NOUGHT + event);
            }
            for (int event = 1; event < plan.events; event++) {
                if (plan.isPinned(event)) {
                    collect(START, event, plan.pinTimes[event], FROM_START_BY_PIN + event);
                    collect(event, START, -plan.pinTimes[event], TO_START_BY_PIN + event);
                }
            }
        }

        private void collect(int begin, int finish, int length, int code) {
            if (steps < STEP_LIMIT) {
                begins[steps] = begin;
                finishes[steps] = finish;
                lengths[steps] = length;
                codes[steps] = code;
                steps++;
            }
        }

        private void startWeights() {
            for (int one = 0; one < events; one++) {
                for (int other = 0; other < events; other++) {
                    weights[one * EVENT_LIMIT + other] = one == other ? 0 : FAR;
                }
            }
            for (int step = 0; step < steps; step++) {
                int at = begins[step] * EVENT_LIMIT + finishes[step];
                weights[at] = Math.min(weights[at], weightOf(lengths[step]));
            }
        }

        private void closeWeights() {
            for (int by = 0; by < events; by++) {
                for (int one = 0; one < events; one++) {
                    int first = weights[one * EVENT_LIMIT + by];
                    for (int other = 0; other < events; other++) {
                        int sum = first + weights[by * EVENT_LIMIT + other];
                        int at = one * EVENT_LIMIT + other;
                        weights[at] = Math.min(weights[at], sum);
                    }
                }
            }
        }

        private void copyBounds(Net from) {
            System.arraycopy(from.weights, 0, weights, 0, weights.length);
            events = from.events;
            steps = 0;
        }

        /** Adds a step that makes no ring that denies: bounds alone, no way. */
        private void addStep(int begin, int finish, int length) {
            for (int one = 0; one < events; one++) {
                int first = weights[one * EVENT_LIMIT + begin] + weightOf(length);
                for (int other = 0; other < events; other++) {
                    int sum = first + weights[finish * EVENT_LIMIT + other];
                    int at = one * EVENT_LIMIT + other;
                    weights[at] = Math.min(weights[at], sum);
                }
            }
        }

        private void addGapStep(int one, int other, int kind, int n) {
            addStep(stepBegin(one, other, kind), stepFinish(one, other, kind), stepLength(kind, n));
        }

        private void addPin(int event, int time) {
            addStep(START, event, time);
            addStep(event, START, -time);
        }

        private static int weightOf(int length) {
            return length * SCALE + 1;
        }

        private int between(int one, int other) {
            return Math.floorDiv(weights[one * EVENT_LIMIT + other], SCALE);
        }

        private int stepsBetween(int one, int other) {
            return Math.floorMod(weights[one * EVENT_LIMIT + other], SCALE);
        }

        private int earliest(int event) {
            return -between(event, START);
        }

        private int latest(int event) {
            return between(START, event);
        }

        private int possibleTimes(int event) {
            return latest(event) - earliest(event) + 1;
        }

        private boolean allows(int event, int time) {
            return time >= earliest(event) && time <= latest(event);
        }

        /** The least sum of a ring through the step of such a gap. */
        private int leastRing(int one, int other, int kind, int n) {
            int back = between(stepFinish(one, other, kind), stepBegin(one, other, kind));
            return stepLength(kind, n) + back;
        }

        private boolean oneStepDenies(int one, int other, int kind, int n) {
            int begin = stepBegin(one, other, kind);
            int finish = stepFinish(one, other, kind);
            for (int step = 0; step < steps; step++) {
                if (begins[step] == finish && finishes[step] == begin
                        && lengths[step] + stepLength(kind, n) < 0) {
                    return true;
                }
            }
            return false;
        }

        private int stepOfWay(int one, int other, int i) {
            int at = one;
            for (int passed = 0; passed < EVENT_LIMIT && at != other; passed++) {
                int step = firstStep(at, other);
                if (step == NONE) {
                    return NOT_FOUND;
                }
                if (passed == i) {
                    return codes[step];
                }
                at = finishes[step];
            }
            return NOT_FOUND;
        }

        private int firstStep(int one, int other) {
            int weight = weights[one * EVENT_LIMIT + other];
            for (int step = 0; step < steps; step++) {
                int rest = weights[finishes[step] * EVENT_LIMIT + other];
                if (begins[step] == one && weightOf(lengths[step]) + rest == weight) {
                    return step;
                }
            }
            return NONE;
        }

        private int countSettled() {
            int count = 0;
            for (int event = 0; event < events; event++) {
                count += asNumber(possibleTimes(event) == 1);
            }
            return count;
        }

        private int greatestEarliest() {
            int greatest = 0;
            for (int event = 0; event < events; event++) {
                greatest = Math.max(greatest, earliest(event));
            }
            return greatest;
        }

        private int room() {
            int sum = 0;
            for (int event = 0; event < events; event++) {
                sum += latest(event) - earliest(event);
            }
            return sum;
        }

        private int placeByEarliest(int event) {
            int place = 0;
            for (int each = 0; each < events; each++) {
                int later = earliest(event) - earliest(each);
                place += asNumber(later > 0 || later == 0 && each < event);
            }
            return place;
        }

        private int placeByLatest(int event) {
            int place = 0;
            for (int each = 0; each < events; each++) {
                int later = latest(event) - latest(each);
                place += asNumber(later > 0 || later == 0 && each < event);
            }
            return place;
        }

        private int countOtherBounds(Net with) {
            int count = 0;
            for (int one = 0; one < events; one++) {
                for (int other = 0; other < events; other++) {
                    count += asNumber(between(one, other) != with.between(one, other));
                }
            }
            return count;
        }

        private int countOtherTimes(Net with) {
            int count = 0;
            for (int event = 0; event < events; event++) {
                count += asNumber(earliest(event) != with.earliest(event)
                        || latest(event) != with.latest(event));
            }
            return count;
        }
    }

    /** The plans before the latest operations; a row that runs round. */
    private static final class History {
        private final Plan[] plans = new Plan[UNDO_LIMIT];
        private int oldest;
        private int count;

        private History() {
            for (int i = 0; i < UNDO_LIMIT; i++) {
                plans[i] = new Plan();
            }
        }

        private void clear() {
            oldest = 0;
            count = 0;
        }

        private void remember(Plan plan) {
            if (count == UNDO_LIMIT) {
                oldest = (oldest + 1) % UNDO_LIMIT;
                count--;
            }
            plans[(oldest + count) % UNDO_LIMIT].copyFrom(plan);
            count++;
        }

        private void bringBack(Plan plan) {
            if (count > 0) {
                count--;
                plan.copyFrom(plans[(oldest + count) % UNDO_LIMIT]);
            }
        }
    }

    private static final class Slots {
        private final Plan[] plans = new Plan[SLOT_LIMIT];
        private final boolean[] filled = new boolean[SLOT_LIMIT];

        private Slots() {
            for (int slot = 0; slot < SLOT_LIMIT; slot++) {
                plans[slot] = new Plan();
            }
        }

        private void clear() {
            for (int slot = 0; slot < SLOT_LIMIT; slot++) {
                filled[slot] = false;
            }
        }
    }

    private static final class Tape {
        private final int[] bytes = new int[TAPE_LIMIT];
        private int length;

        private void putFourBytes(int word) {
            for (int shift = 24; shift >= 0; shift -= 8) {
                if (length < TAPE_LIMIT) {
                    bytes[length] = word >>> shift & 255;
                    length++;
                }
            }
        }

        private int byteAt(int i) {
            return i >= 0 && i < length ? bytes[i] : NONE;
        }

        private boolean isName(int from, int count) {
            return count >= 1 && count <= LETTER_LIMIT && countLetters(from) >= count
                    && !isKeyword(from, count);
        }

        private boolean isKeyword(int from, int count) {
            return spells(from, count, "end") || spells(from, count, "event")
                    || spells(from, count, "gap") || spells(from, count, "start")
                    || spells(from, count, "most") || spells(from, count, "least")
                    || spells(from, count, "off") || spells(from, count, "pin");
        }

        private boolean spells(int from, int count, String word) {
            if (count != word.length()) {
                return false;
            }
            for (int i = 0; i < count && i < word.length(); i++) {
                if (byteAt(from + i) != word.charAt(i)) {
                    return false;
                }
            }
            return true;
        }

        private int countLetters(int from) {
            int at = from;
            while (at < length && isLetter(byteAt(at))) {
                at++;
            }
            return at - from;
        }

        private int countDigits(int from) {
            int at = from;
            while (at < length && isDigit(byteAt(at))) {
                at++;
            }
            return at - from;
        }

        private int countSpaces(int from) {
            int at = from;
            while (at < length && (byteAt(at) == 32 || byteAt(at) == 10)) {
                at++;
            }
            return at - from;
        }

        private static boolean isLetter(int b) {
            return b >= 'a' && b <= 'z';
        }

        private static boolean isDigit(int b) {
            return b >= '0' && b <= '9';
        }
    }

    /** Reads the tape into the draft; on an error the token stays that cannot stand. */
    private static final class SetupReader {
        private static final int NO_MORE = 0;
        private static final int WRONG = 1;
        private static final int WORD = 2;
        private static final int DIGITS = 3;
        private static final int SEMICOLON = 4;
        private final Tape tape = new Tape();
        private final Plan draft = new Plan();
        private final Net net = new Net();
        private int token;
        private int tokenAt;
        private int tokenLength;

        private boolean read() {
            draft.clear();
            tokenAt = 0;
            tokenLength = 0;
            next();
            if (!readEnd()) {
                return false;
            }
            for (int i = 0; i < EVENT_LIMIT && isHere("event"); i++) {
                if (!readEvent()) {
                    return false;
                }
            }
            net.build(draft, NONE);
            for (int i = 0; i <= GAP_LIMIT && isHere("gap"); i++) {
                if (!readGap()) {
                    return false;
                }
            }
            for (int i = 0; i < EVENT_LIMIT && isHere("pin"); i++) {
                if (!readPin()) {
                    return false;
                }
            }
            return token == NO_MORE;
        }

        private int position() {
            return tokenAt;
        }

        private void next() {
            tokenAt += tokenLength;
            tokenAt += tape.countSpaces(tokenAt);
            int first = tape.byteAt(tokenAt);
            if (first == NONE) {
                token = NO_MORE;
                tokenLength = 0;
            } else if (Tape.isLetter(first)) {
                tokenLength = tape.countLetters(tokenAt);
                token = tokenLength <= LETTER_LIMIT ? WORD : WRONG;
            } else if (Tape.isDigit(first)) {
                tokenLength = tape.countDigits(tokenAt);
                token = tokenLength <= DIGIT_LIMIT ? DIGITS : WRONG;
            } else {
                tokenLength = 1;
                token = first == ';' ? SEMICOLON : WRONG;
            }
        }

        private boolean isHere(String word) {
            return token == WORD && tape.spells(tokenAt, tokenLength, word);
        }

        private boolean takeWord(String word) {
            boolean here = isHere(word);
            if (here) {
                next();
            }
            return here;
        }

        private boolean takeSemicolon() {
            boolean here = token == SEMICOLON;
            if (here) {
                next();
            }
            return here;
        }

        private int numberHere() {
            if (token != DIGITS) {
                return NONE;
            }
            int number = 0;
            for (int i = 0; i < tokenLength; i++) {
                number = number * 10 + tape.byteAt(tokenAt + i) - '0';
            }
            return number;
        }

        private int eventHere() {
            return token == WORD ? draft.findEvent(tape, tokenAt, tokenLength) : NONE;
        }

        private int kindHere() {
            if (isHere("most")) {
                return MOST;
            }
            return isHere("least") ? LEAST : NONE;
        }

        private boolean readEnd() {
            if (!takeWord("end")) {
                return false;
            }
            int number = numberHere();
            if (number < 1) {
                return false;
            }
            draft.endTime = number;
            next();
            return takeSemicolon();
        }

        private boolean readEvent() {
            if (draft.events == EVENT_LIMIT) {
                return false;
            }
            next();
            if (token != WORD || !tape.isName(tokenAt, tokenLength) || eventHere() != NONE) {
                return false;
            }
            draft.addEvent(tape, tokenAt, tokenLength);
            next();
            return takeSemicolon();
        }

        private boolean readGap() {
            if (draft.gaps == GAP_LIMIT) {
                return false;
            }
            next();
            int one = eventHere();
            if (one == NONE) {
                return false;
            }
            next();
            int other = eventHere();
            if (other == NONE || other == one) {
                return false;
            }
            next();
            int kind = kindHere();
            if (kind == NONE) {
                return false;
            }
            next();
            int n = numberHere();
            if (n == NONE) {
                return false;
            }
            next();
            boolean on = !takeWord("off");
            if (token != SEMICOLON || on && net.leastRing(one, other, kind, n) < 0) {
                return false;
            }
            draft.addGap(one, other, kind, n, on);
            if (on) {
                net.addGapStep(one, other, kind, n);
            }
            next();
            return true;
        }

        private boolean readPin() {
            next();
            int event = eventHere();
            if (event == NONE || event == START || draft.isPinned(event)) {
                return false;
            }
            next();
            int time = numberHere();
            if (time == NONE || time > draft.endTime) {
                return false;
            }
            next();
            if (token != SEMICOLON || !net.allows(event, time)) {
                return false;
            }
            draft.pinTimes[event] = time;
            net.addPin(event, time);
            next();
            return true;
        }
    }

    private static final class Text {
        private final int[] bytes = new int[TEXT_LIMIT];
        private int length;

        private int byteAt(int i) {
            return i >= 0 && i < length ? bytes[i] : NOT_FOUND;
        }

        private void writeList(Plan plan, Net net) {
            length = 0;
            for (int event = 0; event < plan.events; event++) {
                putName(plan, event);
                put(' ');
                putNumber(net.earliest(event));
                if (net.latest(event) != net.earliest(event)) {
                    put('-');
                    putNumber(net.latest(event));
                }
                if (plan.isPinned(event)) {
                    put('!');
                }
                put('\n');
            }
        }

        private void writeSetup(Plan plan) {
            length = 0;
            putWord("end ");
            putNumber(plan.endTime);
            put(';');
            for (int event = 1; event < plan.events; event++) {
                putWord("event ");
                putName(plan, event);
                put(';');
            }
            for (int gap = 0; gap < plan.gaps; gap++) {
                putGap(plan, gap);
            }
            for (int event = 1; event < plan.events; event++) {
                if (plan.isPinned(event)) {
                    putWord("pin ");
                    putName(plan, event);
                    put(' ');
                    putNumber(plan.pinTimes[event]);
                    put(';');
                }
            }
        }

        private void putGap(Plan plan, int gap) {
            putWord("gap ");
            putName(plan, plan.ones[gap]);
            put(' ');
            putName(plan, plan.others[gap]);
            putWord(plan.kinds[gap] == MOST ? " most " : " least ");
            putNumber(plan.numbers[gap]);
            if (!plan.ons[gap]) {
                putWord(" off");
            }
            put(';');
        }

        private void putName(Plan plan, int event) {
            for (int i = 0; i < plan.letterCounts[event]; i++) {
                put(plan.letterOf(event, i));
            }
        }

        private void putWord(String word) {
            for (int i = 0; i < word.length(); i++) {
                put(word.charAt(i));
            }
        }

        private void putNumber(int number) {
            if (number >= 100) {
                put('0' + number / 100 % 10);
            }
            if (number >= 10) {
                put('0' + number / 10 % 10);
            }
            put('0' + number % 10);
        }

        private void put(int b) {
            if (length < TEXT_LIMIT) {
                bytes[length] = b;
                length++;
            }
        }
    }
}
