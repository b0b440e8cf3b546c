import java.util.ArrayDeque;
import java.util.ArrayList;
import java.util.Arrays;
import java.util.Deque;
import java.util.List;
import java.util.Map;
import java.util.TreeMap;

/**
 * The document once more, in its plainest and slowest form: each "would be" is
 * done on a copy of the state, each contradiction is found by looking at all steps.
 */
final class Model {
    static final int INVALID = -1;
    static final int NOT_FOUND = -2;
    static final int WRONG_STATE = -3;
    static final int FULL = -4;
    static final int DENIED = -5;
    static final int NO_BOUND = -100000;
    static final List<String> KEYWORDS = List.of("end", "event", "gap", "most", "least", "off", "pin", "start");

    record Step(int begin, int finish, int length, int code) { }

    static final class Gap {
        int one;
        int other;
        int kind;
        int n;
        boolean on;

        Gap(int one, int other, int kind, int n, boolean on) {
            this.one = one;
            this.other = other;
            this.kind = kind;
            this.n = n;
            this.on = on;
        }

        Step step(int code) {
            return kind == 0 ? new Step(one, other, n, code) : new Step(other, one, -n, code);
        }
    }

    static final class State {
        int end = 100;
        final List<String> names = new ArrayList<>(List.of("start"));
        final List<Gap> gaps = new ArrayList<>();
        final Map<Integer, Integer> pins = new TreeMap<>();
        final List<int[]> log = new ArrayList<>();
        private int[][] bounds;

        State copy() {
            State c = new State();
            c.end = end;
            c.names.clear();
            c.names.addAll(names);
            for (Gap g : gaps) {
                c.gaps.add(new Gap(g.one, g.other, g.kind, g.n, g.on));
            }
            c.pins.putAll(pins);
            c.log.addAll(log);
            return c;
        }

        void note(int kind, int first, int second) {
            log.add(new int[] {kind, first, second});
            if (log.size() > 40) {
                log.remove(0);
            }
        }

        List<Step> steps() {
            List<Step> steps = new ArrayList<>();
            for (int g = 0; g < gaps.size(); g++) {
                if (gaps.get(g).on) {
                    steps.add(gaps.get(g).step(g));
                }
            }
            for (int e = 1; e < names.size(); e++) {
                steps.add(new Step(0, e, end, 100 + e));
                steps.add(new Step(e, 0, 0, 200 + e));
            }
            for (Map.Entry<Integer, Integer> p : pins.entrySet()) {
                steps.add(new Step(0, p.getKey(), p.getValue(), 300 + p.getKey()));
                steps.add(new Step(p.getKey(), 0, -p.getValue(), 400 + p.getKey()));
            }
            return steps;
        }

        /** All bounds, or null if a ring denies. To be asked only when nothing changes any more. */
        int[][] bounds() {
            if (bounds == null) {
                bounds = new int[names.size()][];
                List<Step> steps = steps();
                for (int from = 0; from < names.size(); from++) {
                    bounds[from] = boundsFrom(from, steps, names.size());
                    if (bounds[from] == null) {
                        bounds = null;
                        return null;
                    }
                }
            }
            return bounds;
        }

        private static int[] boundsFrom(int from, List<Step> steps, int events) {
            int far = Integer.MAX_VALUE;
            int[] least = new int[events];
            Arrays.fill(least, far);
            least[from] = 0;
            for (int round = 0; round <= events; round++) {
                boolean changed = false;
                for (Step s : steps) {
                    if (least[s.begin] != far && least[s.begin] + s.length < least[s.finish]) {
                        least[s.finish] = least[s.begin] + s.length;
                        changed = true;
                    }
                }
                if (!changed) {
                    return least;
                }
            }
            return null;
        }

        boolean denied() {
            return bounds() == null;
        }

        int bound(int a, int b) {
            return bounds()[a][b];
        }

        int earliest(int e) {
            return -bound(e, 0);
        }

        int latest(int e) {
            return bound(0, e);
        }

        int room() {
            int sum = 0;
            for (int e = 0; e < names.size(); e++) {
                sum += latest(e) - earliest(e);
            }
            return sum;
        }

        int greatestEarliest() {
            int greatest = 0;
            for (int e = 0; e < names.size(); e++) {
                greatest = Math.max(greatest, earliest(e));
            }
            return greatest;
        }

        State without(int gap) {
            State c = copy();
            c.gaps.get(gap).on = false;
            return c;
        }

        boolean tight(int g) {
            Step s = gaps.get(g).step(g);
            return gaps.get(g).on && s.length == bound(s.begin, s.finish);
        }

        boolean needed(int g) {
            Step s = gaps.get(g).step(g);
            return tight(g) && without(g).bound(s.begin, s.finish) > bound(s.begin, s.finish);
        }

        int needless() {
            for (int g = 0; g < gaps.size(); g++) {
                if (gaps.get(g).on && !needed(g)) {
                    return g;
                }
            }
            return NOT_FOUND;
        }

        /** Looks through all rows of one step, of two steps and so on, in their order. */
        List<Step> way(int a, int b) {
            List<Step> row = new ArrayList<>();
            for (int count = 1; count < 12; count++) {
                if (extend(a, b, bound(a, b), count, row)) {
                    return row;
                }
            }
            throw new IllegalStateException("no way");
        }

        private boolean extend(int at, int b, int rest, int count, List<Step> row) {
            if (count == 0) {
                return at == b && rest == 0;
            }
            if (bound(at, b) > rest) {
                return false;
            }
            for (Step s : steps()) {
                if (s.begin == at) {
                    row.add(s);
                    if (extend(s.finish, b, rest - s.length, count - 1, row)) {
                        return true;
                    }
                    row.remove(row.size() - 1);
                }
            }
            return false;
        }
    }

    private State now = new State();
    private final Deque<State> before = new ArrayDeque<>();
    private final State[] slots = new State[2];
    private String tape = "";
    private int error = NOT_FOUND;

    private boolean isEvent(int e) {
        return e >= 0 && e < now.names.size();
    }

    private boolean two(int a, int b) {
        return isEvent(a) && isEvent(b) && a != b;
    }

    private boolean isGap(int g) {
        return g >= 0 && g < now.gaps.size();
    }

    private boolean tellable(int one, int other, int kind, int n) {
        return two(one, other) && (kind == 0 || kind == 1) && n >= 0 && n <= 999;
    }

    private void adopt(State next) {
        before.addLast(now);
        if (before.size() > 8) {
            before.removeFirst();
        }
        now = next;
    }

    private void adopt(State next, int kind, int first, int second) {
        next.note(kind, first, second);
        adopt(next);
    }

    int append(int a, int b, int c, int d, int e) {
        if (tape.length() > 880) {
            return INVALID;
        }
        StringBuilder text = new StringBuilder(tape);
        for (int word : new int[] {a, b, c, d, e}) {
            for (int i = 3; i >= 0; i--) {
                text.append((char) (word >> 8 * i & 255));
            }
        }
        tape = text.toString();
        return tape.length();
    }

    int truncate(int n) {
        if (n < 0 || n > tape.length()) {
            return INVALID;
        }
        tape = tape.substring(0, tape.length() - n);
        return tape.length();
    }

    int load() {
        ModelSetup setup = new ModelSetup(tape);
        State read = setup.read();
        tape = "";
        error = read == null ? setup.position() : NOT_FOUND;
        if (read == null) {
            return INVALID;
        }
        now = read;
        before.clear();
        Arrays.fill(slots, null);
        return now.gaps.size();
    }

    int errorPosition() {
        return error;
    }

    private boolean newName() {
        return tape.matches("[a-z]{1,5}") && !KEYWORDS.contains(tape) && !now.names.contains(tape);
    }

    int open() {
        if (!newName()) {
            return INVALID;
        }
        if (now.names.size() == 10) {
            return FULL;
        }
        State next = now.copy();
        next.names.add(tape);
        tape = "";
        adopt(next, 0, next.names.size() - 1, next.names.size());
        return next.names.size() - 1;
    }

    private State told(int one, int other, int kind, int n) {
        State next = now.copy();
        next.gaps.add(new Gap(one, other, kind, n, true));
        return next;
    }

    int tell(int one, int other, int kind, int n) {
        if (!tellable(one, other, kind, n)) {
            return INVALID;
        }
        if (now.gaps.size() == 24) {
            return FULL;
        }
        State next = told(one, other, kind, n);
        if (next.denied()) {
            adopt(now.copy(), 8, kind, n);
            return DENIED;
        }
        adopt(next, 1, next.gaps.size() - 1, n);
        return next.gaps.size() - 1;
    }

    int drop(int gap) {
        if (!isGap(gap)) {
            return INVALID;
        }
        State next = now.copy();
        Gap gone = next.gaps.remove(gap);
        adopt(next, 2, gap, gone.n);
        return next.gaps.size();
    }

    int set(int gap, int n) {
        if (!isGap(gap) || n < 0 || n > 999) {
            return INVALID;
        }
        int former = now.gaps.get(gap).n;
        if (former == n) {
            return NOT_FOUND;
        }
        State next = now.copy();
        next.gaps.get(gap).n = n;
        if (next.denied()) {
            return DENIED;
        }
        adopt(next, 3, gap, former);
        return former;
    }

    private State turned(int gap) {
        State next = now.copy();
        next.gaps.get(gap).on = !next.gaps.get(gap).on;
        return next;
    }

    int turn(int gap) {
        if (!isGap(gap)) {
            return INVALID;
        }
        State next = turned(gap);
        if (next.denied()) {
            return DENIED;
        }
        int on = next.gaps.get(gap).on ? 1 : 0;
        adopt(next, 4, gap, on);
        return on;
    }

    private State pinned(int event, int time) {
        State next = now.copy();
        next.pins.put(event, time);
        return next;
    }

    int pin(int event, int time) {
        if (!isEvent(event) || time < 0 || time > now.end) {
            return INVALID;
        }
        if (event == 0 || now.pins.containsKey(event)) {
            return WRONG_STATE;
        }
        State next = pinned(event, time);
        if (next.denied()) {
            return DENIED;
        }
        adopt(next, 5, event, time);
        return next.pins.size();
    }

    int unpin(int event) {
        if (!isEvent(event)) {
            return INVALID;
        }
        if (!now.pins.containsKey(event)) {
            return WRONG_STATE;
        }
        State next = now.copy();
        int former = next.pins.remove(event);
        adopt(next, 6, event, former);
        return former;
    }

    private State ended(int end) {
        State next = now.copy();
        next.end = end;
        return next;
    }

    int end(int end) {
        if (end < 1 || end > 999) {
            return INVALID;
        }
        int former = now.end;
        if (former == end) {
            return NOT_FOUND;
        }
        State next = ended(end);
        if (next.denied()) {
            return DENIED;
        }
        adopt(next, 7, end, former);
        return former;
    }

    int rename(int event) {
        if (!isEvent(event) || !newName()) {
            return INVALID;
        }
        if (event == 0) {
            return WRONG_STATE;
        }
        State next = now.copy();
        next.names.set(event, tape);
        int letters = tape.length();
        tape = "";
        adopt(next, 9, event, letters);
        return letters;
    }

    int reverse(int gap) {
        if (!isGap(gap)) {
            return INVALID;
        }
        State next = now.copy();
        Gap g = next.gaps.get(gap);
        int one = g.one;
        g.one = g.other;
        g.other = one;
        if (next.denied()) {
            return DENIED;
        }
        adopt(next, 10, gap, g.on ? 1 : 0);
        return g.on ? 1 : 0;
    }

    int tighten() {
        State next = now.copy();
        int count = 0;
        for (int g = 0; g < next.gaps.size(); g++) {
            Gap gap = next.gaps.get(g);
            if (gap.on && !now.tight(g)) {
                Step s = gap.step(g);
                int n = gap.kind == 0 ? now.bound(s.begin, s.finish) : -now.bound(s.begin, s.finish);
                if (n >= 0) {
                    gap.n = n;
                    count++;
                }
            }
        }
        if (count == 0) {
            return NOT_FOUND;
        }
        adopt(next, 11, count, next.room());
        return count;
    }

    int thin() {
        State next = now.copy();
        int count = 0;
        int gap = next.needless();
        while (gap >= 0) {
            next = next.copy();
            next.gaps.remove(gap);
            count++;
            gap = next.needless();
        }
        if (count == 0) {
            return NOT_FOUND;
        }
        adopt(next, 12, count, next.gaps.size());
        return count;
    }

    int pinAll() {
        State next = now.copy();
        int count = 0;
        for (int e = 1; e < next.names.size(); e++) {
            if (!next.pins.containsKey(e)) {
                next.pins.put(e, now.earliest(e));
                count++;
            }
        }
        if (count == 0) {
            return NOT_FOUND;
        }
        adopt(next, 13, count, next.pins.size());
        return count;
    }

    int keep(int slot) {
        if (slot < 0 || slot > 1) {
            return INVALID;
        }
        slots[slot] = now;
        return now.gaps.size();
    }

    int restore(int slot) {
        if (slot < 0 || slot > 1) {
            return INVALID;
        }
        if (slots[slot] == null) {
            return NOT_FOUND;
        }
        adopt(slots[slot]);
        return now.gaps.size();
    }

    int undo() {
        if (before.isEmpty()) {
            return INVALID;
        }
        now = before.removeLast();
        return before.size();
    }

    int value(int what) {
        int events = now.names.size();
        int count = 0;
        switch (what) {
            case 0: return now.end;
            case 1: return events;
            case 2: return now.gaps.size();
            case 3: return (int) now.gaps.stream().filter(g -> g.on).count();
            case 4: return now.pins.size();
            case 5: return now.steps().size();
            case 6:
            case 7:
                for (int g = 0; g < now.gaps.size(); g++) {
                    count += (what == 6 ? now.tight(g) : now.needed(g)) ? 1 : 0;
                }
                return count;
            case 8:
                for (int e = 0; e < events; e++) {
                    count += now.earliest(e) == now.latest(e) ? 1 : 0;
                }
                return count;
            case 9: return now.greatestEarliest();
            case 10: return now.room();
            case 11: return now.log.size();
            case 12: return before.size();
            default: return INVALID;
        }
    }

    int letter(int event, int i) {
        if (!isEvent(event) || i < 0) {
            return INVALID;
        }
        String name = now.names.get(event);
        return i < name.length() ? name.charAt(i) - 96 : NOT_FOUND;
    }

    int gap(int gap, int what) {
        if (!isGap(gap) || what < 0 || what > 7) {
            return INVALID;
        }
        Gap g = now.gaps.get(gap);
        Step s = g.step(gap);
        int slack = g.on ? s.length - now.bound(s.begin, s.finish) : 0;
        int[] parts = {g.one, g.other, g.kind, g.n, g.on ? 1 : 0, now.tight(gap) ? 1 : 0,
            now.needed(gap) ? 1 : 0, slack};
        return parts[what];
    }

    int event(int event, int what) {
        if (!isEvent(event) || what < 0 || what > 4) {
            return INVALID;
        }
        int on = (int) now.gaps.stream().filter(g -> g.on && (g.one == event || g.other == event)).count();
        int[] parts = {now.earliest(event), now.latest(event), now.latest(event) - now.earliest(event) + 1,
            now.pins.getOrDefault(event, NOT_FOUND), on};
        return parts[what];
    }

    int bound(int one, int other) {
        return isEvent(one) && isEvent(other) ? now.bound(one, other) : NO_BOUND;
    }

    int way(int one, int other, int i) {
        if (!two(one, other) || i < 0) {
            return INVALID;
        }
        List<Step> way = now.way(one, other);
        return i < way.size() ? way.get(i).code : NOT_FOUND;
    }

    int wayLength(int one, int other) {
        return two(one, other) ? now.way(one, other).size() : INVALID;
    }

    int relation(int one, int other) {
        if (!two(one, other)) {
            return INVALID;
        }
        // The differences other less one that can be are all of these.
        int from = -now.bound(other, one);
        int to = now.bound(one, other);
        boolean same = true;
        boolean ahead = true;
        boolean behind = true;
        boolean neverBehind = true;
        boolean neverAhead = true;
        for (int d = from; d <= to; d++) {
            same &= d == 0;
            ahead &= d > 0;
            behind &= d < 0;
            neverBehind &= d >= 0;
            neverAhead &= d <= 0;
        }
        return same ? 0 : ahead ? 1 : behind ? 2 : neverBehind ? 3 : neverAhead ? 4 : 5;
    }

    int play(int one, int other) {
        return two(one, other) ? now.bound(one, other) + now.bound(other, one) : INVALID;
    }

    int pairs(int how) {
        if (how < 0 || how > 5) {
            return INVALID;
        }
        int count = 0;
        for (int a = 0; a < now.names.size(); a++) {
            for (int b = a + 1; b < now.names.size(); b++) {
                count += relation(a, b) == how ? 1 : 0;
            }
        }
        return count;
    }

    int direct(int one, int other) {
        if (!two(one, other)) {
            return INVALID;
        }
        for (Step s : now.steps()) {
            if (s.code < 100 && s.begin == one && s.finish == other && s.length == now.bound(one, other)) {
                return s.code;
            }
        }
        return NOT_FOUND;
    }

    private int place(int i, java.util.function.IntUnaryOperator time) {
        if (i < 0) {
            return INVALID;
        }
        List<Integer> events = new ArrayList<>();
        for (int e = 0; e < now.names.size(); e++) {
            events.add(e);
        }
        events.sort(java.util.Comparator.comparingInt(time::applyAsInt));
        return i < events.size() ? events.get(i) : NOT_FOUND;
    }

    int ordered(int i) {
        return place(i, now::earliest);
    }

    int lastly(int i) {
        return place(i, now::latest);
    }

    int middle(int event) {
        if (!isEvent(event)) {
            return INVALID;
        }
        State s = now.copy();
        for (int e = 1; e < s.names.size(); e++) {
            if (!s.pins.containsKey(e)) {
                int time = (s.earliest(e) + s.latest(e)) / 2;
                s = s.copy();
                s.pins.put(e, time);
            }
        }
        return event == 0 ? 0 : s.pins.get(event);
    }

    int can(int event, int time) {
        if (!isEvent(event)) {
            return INVALID;
        }
        return time >= now.earliest(event) && time <= now.latest(event) ? 1 : 0;
    }

    int widest() {
        int best = Integer.MIN_VALUE;
        int found = NOT_FOUND;
        for (int a = 0; a < now.names.size(); a++) {
            for (int b = 0; b < now.names.size(); b++) {
                if (a != b && now.bound(a, b) > best) {
                    best = now.bound(a, b);
                    found = 10 * a + b;
                }
            }
        }
        return found;
    }

    int freest() {
        int best = -1;
        int found = -1;
        for (int e = 0; e < now.names.size(); e++) {
            if (now.latest(e) - now.earliest(e) > best) {
                best = now.latest(e) - now.earliest(e);
                found = e;
            }
        }
        return found;
    }

    int why(int one, int other, int kind, int n, int depth) {
        if (!tellable(one, other, kind, n) || depth < 0 || depth > 2) {
            return INVALID;
        }
        if (!told(one, other, kind, n).denied()) {
            return depth == 0 ? 0 : NOT_FOUND;
        }
        Step own = new Gap(one, other, kind, n, true).step(0);
        if (depth == 0) {
            for (Step s : now.steps()) {
                if (s.begin == own.finish && s.finish == own.begin && s.length + own.length < 0) {
                    return 1;
                }
            }
            return 2;
        }
        List<Step> back = now.way(own.finish, own.begin);
        int sum = own.length;
        for (Step s : back) {
            sum += s.length;
        }
        return depth == 1 ? -sum : back.get(0).code;
    }

    int ring(int one, int other, int kind, int n, int i) {
        if (!tellable(one, other, kind, n) || i < 0) {
            return INVALID;
        }
        if (!told(one, other, kind, n).denied()) {
            return NOT_FOUND;
        }
        Step own = new Gap(one, other, kind, n, true).step(0);
        return way(own.finish, own.begin, i);
    }

    int culprit(int one, int other, int kind, int n) {
        if (!tellable(one, other, kind, n)) {
            return INVALID;
        }
        State told = told(one, other, kind, n);
        if (told.denied()) {
            for (int g = 0; g < now.gaps.size(); g++) {
                if (now.gaps.get(g).on && !told.without(g).denied()) {
                    return g;
                }
            }
        }
        return NOT_FOUND;
    }

    int tightest(int one, int other, int kind) {
        if (!two(one, other) || kind < 0 || kind > 1) {
            return INVALID;
        }
        for (int i = 0; i <= 999; i++) {
            int n = kind == 0 ? i : 999 - i;
            if (!told(one, other, kind, n).denied()) {
                return n;
            }
        }
        return NOT_FOUND;
    }

    int spare(int gap) {
        if (!isGap(gap)) {
            return INVALID;
        }
        Gap g = now.gaps.get(gap);
        if (!g.on) {
            return WRONG_STATE;
        }
        int more = 0;
        for (int n = g.n; n >= 0 && n <= 999; n += g.kind == 0 ? -1 : 1) {
            State next = now.copy();
            next.gaps.get(gap).n = n;
            if (next.denied()) {
                break;
            }
            more = Math.abs(g.n - n);
        }
        return more;
    }

    int needless() {
        return now.needless();
    }

    int needs(int event) {
        if (!isEvent(event)) {
            return INVALID;
        }
        int count = 0;
        for (int g = 0; g < now.gaps.size(); g++) {
            boolean has = now.gaps.get(g).one == event || now.gaps.get(g).other == event;
            count += has && now.needed(g) ? 1 : 0;
        }
        return count;
    }

    private int change(State next, int what) {
        int bounds = 0;
        int times = 0;
        for (int a = 0; a < now.names.size(); a++) {
            for (int b = 0; b < now.names.size(); b++) {
                bounds += now.bound(a, b) != next.bound(a, b) ? 1 : 0;
            }
            times += now.earliest(a) != next.earliest(a) || now.latest(a) != next.latest(a) ? 1 : 0;
        }
        return what == 0 ? bounds : what == 1 ? times : next.room();
    }

    int ifTold(int one, int other, int kind, int n, int what) {
        if (!tellable(one, other, kind, n) || what < 0 || what > 2) {
            return INVALID;
        }
        State next = told(one, other, kind, n);
        return next.denied() ? DENIED : change(next, what);
    }

    int ifDropped(int gap, int what) {
        if (!isGap(gap) || what < 0 || what > 2) {
            return INVALID;
        }
        State next = now.copy();
        next.gaps.remove(gap);
        return change(next, what);
    }

    int ifTurned(int gap, int what) {
        if (!isGap(gap) || what < 0 || what > 2) {
            return INVALID;
        }
        State next = turned(gap);
        return next.denied() ? DENIED : change(next, what);
    }

    int ifPinned(int event, int time, int what) {
        if (!isEvent(event) || time < 0 || time > now.end || what < 0 || what > 2) {
            return INVALID;
        }
        if (event == 0 || now.pins.containsKey(event)) {
            return WRONG_STATE;
        }
        State next = pinned(event, time);
        return next.denied() ? DENIED : change(next, what);
    }

    int leastEnd() {
        int end = 1;
        while (ended(end).denied()) {
            end++;
        }
        return end;
    }

    int slowest() {
        int found = NOT_FOUND;
        int least = Integer.MAX_VALUE;
        for (int g = 0; g < now.gaps.size(); g++) {
            if (now.gaps.get(g).on && now.without(g).greatestEarliest() < least) {
                least = now.without(g).greatestEarliest();
                found = g;
            }
        }
        return found;
    }

    int log(int i, int what) {
        if (i < 0 || what < 0 || what > 2) {
            return INVALID;
        }
        return i < now.log.size() ? now.log.get(i)[what] : NOT_FOUND;
    }

    float tightShare() {
        return value(3) == 0 ? 0f : (float) value(6) / (float) value(3);
    }

    double meanRoom() {
        return (double) value(10) / (double) value(1);
    }

    String list() {
        StringBuilder text = new StringBuilder();
        for (int e = 0; e < now.names.size(); e++) {
            text.append(now.names.get(e)).append(' ').append(now.earliest(e));
            if (now.earliest(e) != now.latest(e)) {
                text.append('-').append(now.latest(e));
            }
            text.append(now.pins.containsKey(e) ? "!\n" : "\n");
        }
        return text.toString();
    }

    String setup() {
        StringBuilder text = new StringBuilder("end " + now.end + ";");
        for (int e = 1; e < now.names.size(); e++) {
            text.append("event ").append(now.names.get(e)).append(';');
        }
        for (Gap g : now.gaps) {
            text.append("gap ").append(now.names.get(g.one)).append(' ').append(now.names.get(g.other));
            text.append(g.kind == 0 ? " most " : " least ").append(g.n).append(g.on ? ";" : " off;");
        }
        for (Map.Entry<Integer, Integer> p : now.pins.entrySet()) {
            text.append("pin ").append(now.names.get(p.getKey())).append(' ').append(p.getValue()).append(';');
        }
        return text.toString();
    }

    private static int byteOf(String text, int i) {
        return i < 0 ? INVALID : i < text.length() ? text.charAt(i) : NOT_FOUND;
    }

    int listLength() {
        return list().length();
    }

    int listByte(int i) {
        return byteOf(list(), i);
    }

    int setupLength() {
        return setup().length();
    }

    int setupByte(int i) {
        return byteOf(setup(), i);
    }
}
