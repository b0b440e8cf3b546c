import java.util.function.Supplier;
import java.util.function.ToLongFunction;

/**
 * Section 6: no call that returns one of the codes changes anything. Two objects are made alike,
 * one gets the call, and both are then looked at from all sides, by undo() and restore(), too.
 */
public final class RefusedTest {
    private static final Check C = new Check("RefusedTest");
    private static final int INVALID = TimeGaps.INVALID;
    private static final int NOT_FOUND = TimeGaps.NOT_FOUND;
    private static final int WRONG_STATE = TimeGaps.WRONG_STATE;
    private static final int FULL = TimeGaps.FULL;
    private static final int DENIED = TimeGaps.DENIED;
    private static final String BASE = "end 40;event a;event b;event c;gap start a least 4;gap a b least 6;"
            + "gap b c most 8;gap c a most 2 off;gap a b most 5 off;pin c 30;";

    public static void main(String[] args) {
        operations();
        operationsByTape();
        operationsWhenFull();
        operationsWhenEmpty();
        operationsThatFindNothing();
        slotsAndUndo();
        tape();
        loadWithAnError();
        deniedTell();
        questions();
        C.finish();
    }

    /** All that can be seen of an object, in some 300 calls; it is of no use afterwards. */
    private static String everything(TimeGaps x) {
        StringBuilder seen = new StringBuilder();
        for (int what = 0; what < 13; what++) {
            seen.append(x.value(what)).append(' ');
        }
        int events = Math.min(5, x.value(1));
        for (int i = 0; i < events * events; i++) {
            seen.append(x.bound(i / events, i % events)).append(' ');
        }
        int entries = x.value(11);
        for (int i = 0; i < entries; i++) {
            seen.append("| ").append(x.log(i, 0)).append(' ').append(x.log(i, 1)).append(' ').append(x.log(i, 2));
        }
        seen.append(" error ").append(x.errorPosition()).append(" tape ").append(x.truncate(0));
        plan(x, seen);
        for (int i = 0; i < 9; i++) {
            seen.append("\nundo ").append(x.undo());
            plan(x, seen);
        }
        for (int slot = 0; slot < 2; slot++) {
            seen.append("\nrestore ").append(x.restore(slot));
            plan(x, seen);
        }
        seen.append("\nrename ").append(x.rename(1));
        for (int i = 0; i < 5; i++) {
            seen.append(' ').append(x.letter(1, i));
        }
        seen.append("\nload ").append(x.load()).append(' ').append(x.errorPosition());
        return seen.toString();
    }

    private static void plan(TimeGaps x, StringBuilder seen) {
        seen.append(" : ").append(x.value(0)).append(' ').append(x.value(1)).append(' ').append(x.value(2))
                .append(' ').append(x.value(4)).append(' ').append(x.value(11)).append(' ').append(x.setupLength());
        seen.append(' ').append(x.event(1, 0)).append(' ').append(x.event(1, 1)).append(' ').append(x.event(1, 3));
        int gap = x.value(2) - 1;
        for (int what = 0; what < 5 && gap >= 0; what++) {
            seen.append(' ').append(x.gap(gap, what));
        }
    }

    private static void leaves(String call, Supplier<TimeGaps> maker, ToLongFunction<TimeGaps> by, long due) {
        TimeGaps x = maker.get();
        C.is(call, by.applyAsLong(x), due);
        C.isText(call + " changed something", everything(x), everything(maker.get()));
    }

    /** All slots hold something, the log and what can be undone are full, the latest load() failed. */
    private static TimeGaps rich(String word) {
        TimeGaps x = Check.of(BASE);
        x.keep(1);
        Check.load(x, "end 7;;");
        for (int end = 100; end < 133; end++) {
            x.end(end);
        }
        x.keep(0);
        x.turn(0);
        x.turn(0);
        x.unpin(3);
        x.pin(3, 30);
        x.set(0, 5);
        x.set(0, 4);
        x.reverse(3);
        x.reverse(3);
        x.end(40);
        Check.tape(x, word);
        return x;
    }

    private static TimeGaps rich() {
        return rich("qr");
    }

    private static void operations() {
        C.part("operations with invalid arguments");
        C.is("the log is full", rich().value(11), 40);
        C.is("eight can be undone", rich().value(12), 8);
        for (int wrong : new int[] {-1, 5, Integer.MIN_VALUE, Integer.MAX_VALUE}) {
            leaves("tell, one", RefusedTest::rich, x -> x.tell(wrong, 1, 0, 40), INVALID);
            leaves("tell, other", RefusedTest::rich, x -> x.tell(1, wrong, 0, 40), INVALID);
            leaves("drop", RefusedTest::rich, x -> x.drop(wrong), INVALID);
            leaves("set, gap", RefusedTest::rich, x -> x.set(wrong, 1), INVALID);
            leaves("turn", RefusedTest::rich, x -> x.turn(wrong), INVALID);
            leaves("pin, event", RefusedTest::rich, x -> x.pin(wrong, 30), INVALID);
            leaves("unpin", RefusedTest::rich, x -> x.unpin(wrong), INVALID);
            leaves("rename", RefusedTest::rich, x -> x.rename(wrong), INVALID);
            leaves("reverse", RefusedTest::rich, x -> x.reverse(wrong), INVALID);
        }
        leaves("tell, twice", RefusedTest::rich, x -> x.tell(2, 2, 0, 40), INVALID);
        leaves("tell, kind", RefusedTest::rich, x -> x.tell(1, 2, 2, 40), INVALID);
        leaves("tell, kind", RefusedTest::rich, x -> x.tell(1, 2, -1, 40), INVALID);
        leaves("tell, n", RefusedTest::rich, x -> x.tell(1, 2, 0, 1000), INVALID);
        leaves("tell, n", RefusedTest::rich, x -> x.tell(1, 2, 1, -1), INVALID);
        leaves("set, n", RefusedTest::rich, x -> x.set(0, -1), INVALID);
        leaves("set, n", RefusedTest::rich, x -> x.set(3, 1000), INVALID);
        leaves("pin, time", RefusedTest::rich, x -> x.pin(1, -1), INVALID);
        leaves("pin, time", RefusedTest::rich, x -> x.pin(1, 41), INVALID);
        leaves("end", RefusedTest::rich, x -> x.end(0), INVALID);
        leaves("end", RefusedTest::rich, x -> x.end(1000), INVALID);
        C.part("operations with other results");
        leaves("set, so already", RefusedTest::rich, x -> x.set(0, 4), NOT_FOUND);
        leaves("set, denied", RefusedTest::rich, x -> x.set(0, 35), DENIED);
        leaves("turn, denied", RefusedTest::rich, x -> x.turn(4), DENIED);
        leaves("pin of the START", RefusedTest::rich, x -> x.pin(0, 0), WRONG_STATE);
        leaves("pin of a pinned one", RefusedTest::rich, x -> x.pin(3, 30), WRONG_STATE);
        leaves("pin, denied", RefusedTest::rich, x -> x.pin(1, 3), DENIED);
        leaves("pin, denied", RefusedTest::rich, x -> x.pin(1, 35), DENIED);
        leaves("unpin of the START", RefusedTest::rich, x -> x.unpin(0), WRONG_STATE);
        leaves("unpin of one that is not", RefusedTest::rich, x -> x.unpin(1), WRONG_STATE);
        leaves("end, so already", RefusedTest::rich, x -> x.end(40), NOT_FOUND);
        leaves("end, denied", RefusedTest::rich, x -> x.end(29), DENIED);
        leaves("rename of the START", RefusedTest::rich, x -> x.rename(0), WRONG_STATE);
        leaves("reverse, denied", RefusedTest::rich, x -> x.reverse(0), DENIED);
    }

    private static void operationsByTape() {
        C.part("open and rename by a tape that is no new NAME");
        for (String word : new String[] {"", "a", "c", "start", "pin", "abcdef", "q ", " q", "Q", "q1", "qr;"}) {
            leaves("open of \"" + word + "\"", () -> rich(word), TimeGaps::open, INVALID);
            leaves("rename to \"" + word + "\"", () -> rich(word), x -> x.rename(1), INVALID);
            leaves("rename to \"" + word + "\"", () -> rich(word), x -> x.rename(0), INVALID);
        }
    }

    /** Ten events and 24 gaps. */
    private static TimeGaps full() {
        TimeGaps x = rich("");
        for (char name = 'd'; name < 'j'; name++) {
            Check.open(x, "" + name);
        }
        for (int gap = x.value(2); gap < 24; gap++) {
            x.tell(1, 2, 0, 9 + gap);
        }
        Check.tape(x, "qr");
        return x;
    }

    private static void operationsWhenFull() {
        C.part("operations when all is full");
        C.is("events", full().value(1), 10);
        C.is("gaps", full().value(2), 24);
        leaves("open", RefusedTest::full, TimeGaps::open, FULL);
        leaves("tell", RefusedTest::full, x -> x.tell(1, 2, 0, 40), FULL);
        leaves("tell that would be denied", RefusedTest::full, x -> x.tell(1, 2, 0, 0), FULL);
        leaves("tell, wrong", RefusedTest::full, x -> x.tell(1, 10, 0, 0), INVALID);
        leaves("drop", RefusedTest::full, x -> x.drop(24), INVALID);
        leaves("set", RefusedTest::full, x -> x.set(24, 0), INVALID);
        leaves("set, denied", RefusedTest::full, x -> x.set(23, 0), DENIED);
        leaves("pin", RefusedTest::full, x -> x.pin(10, 0), INVALID);
    }

    private static TimeGaps empty() {
        TimeGaps x = new TimeGaps();
        Check.tape(x, "qr");
        return x;
    }

    private static void operationsWhenEmpty() {
        C.part("operations on a new object");
        leaves("tell", RefusedTest::empty, x -> x.tell(0, 0, 0, 0), INVALID);
        leaves("tell", RefusedTest::empty, x -> x.tell(0, 1, 0, 0), INVALID);
        leaves("drop", RefusedTest::empty, x -> x.drop(0), INVALID);
        leaves("set", RefusedTest::empty, x -> x.set(0, 0), INVALID);
        leaves("turn", RefusedTest::empty, x -> x.turn(0), INVALID);
        leaves("reverse", RefusedTest::empty, x -> x.reverse(0), INVALID);
        leaves("pin", RefusedTest::empty, x -> x.pin(0, 0), WRONG_STATE);
        leaves("pin", RefusedTest::empty, x -> x.pin(1, 0), INVALID);
        leaves("unpin", RefusedTest::empty, x -> x.unpin(0), WRONG_STATE);
        leaves("rename", RefusedTest::empty, x -> x.rename(0), WRONG_STATE);
        leaves("end", RefusedTest::empty, x -> x.end(100), NOT_FOUND);
        leaves("tighten", RefusedTest::empty, TimeGaps::tighten, NOT_FOUND);
        leaves("thin", RefusedTest::empty, TimeGaps::thin, NOT_FOUND);
        leaves("pinAll", RefusedTest::empty, TimeGaps::pinAll, NOT_FOUND);
        leaves("restore", RefusedTest::empty, x -> x.restore(0), NOT_FOUND);
        leaves("restore", RefusedTest::empty, x -> x.restore(1), NOT_FOUND);
        leaves("undo", RefusedTest::empty, TimeGaps::undo, INVALID);
    }

    private static TimeGaps thinned() {
        TimeGaps x = rich();
        x.thin();
        x.tighten();
        return x;
    }

    private static TimeGaps settled() {
        TimeGaps x = thinned();
        x.pinAll();
        return x;
    }

    /** The gap 1 is not tight, but only -1 would make it so. */
    private static TimeGaps loose() {
        TimeGaps x = Check.of("end 40;event a;event b;gap a b least 1;gap b a most 0;");
        x.end(41);
        Check.tape(x, "qr");
        return x;
    }

    private static void operationsThatFindNothing() {
        C.part("operations that find nothing");
        leaves("pinAll", RefusedTest::settled, TimeGaps::pinAll, NOT_FOUND);
        leaves("tighten", RefusedTest::thinned, TimeGaps::tighten, NOT_FOUND);
        leaves("thin", RefusedTest::thinned, TimeGaps::thin, NOT_FOUND);
        leaves("tighten, below 0", RefusedTest::loose, TimeGaps::tighten, NOT_FOUND);
    }

    private static void slotsAndUndo() {
        C.part("slots and undo");
        for (int wrong : new int[] {-1, 2, Integer.MIN_VALUE, Integer.MAX_VALUE}) {
            leaves("keep", RefusedTest::rich, x -> x.keep(wrong), INVALID);
            leaves("restore", RefusedTest::rich, x -> x.restore(wrong), INVALID);
        }
        leaves("restore of an empty one", RefusedTest::loose, x -> x.restore(0), NOT_FOUND);
        leaves("undo of none", RefusedTest::undone, TimeGaps::undo, INVALID);
    }

    private static TimeGaps undone() {
        TimeGaps x = rich();
        for (int i = 0; i < 8; i++) {
            x.undo();
        }
        return x;
    }

    private static void tape() {
        C.part("the tape");
        for (int wrong : new int[] {-1, 3, Integer.MIN_VALUE, Integer.MAX_VALUE}) {
            leaves("truncate", RefusedTest::rich, x -> x.truncate(wrong), INVALID);
        }
        leaves("truncate of 0", RefusedTest::rich, x -> x.truncate(0), 2);
        String setup = "end 9;event q;" + " ".repeat(867);
        leaves("append", () -> rich(setup), x -> x.append(1, 2, 3, 4, 5), INVALID);
        leaves("append", () -> rich(setup + " ".repeat(19)), x -> x.append(1, 2, 3, 4, 5), INVALID);
    }

    /** The tape and the error position are what the document says, all else stays. */
    private static void loadWithAnError() {
        C.part("load() with an error");
        wrongLoad("", 0);
        wrongLoad("end", 3);
        wrongLoad("end 9;event q;gap start q most 5;gap start q least 6;", 52);
        wrongLoad("end 9;event q;gap start q most 5;pin q 9;", 40);
        wrongLoad(BASE + "x", BASE.length());
    }

    private static void wrongLoad(String wrong, int position) {
        TimeGaps x = rich(wrong);
        C.is("load of " + wrong, x.load(), INVALID);
        C.is("tape", x.truncate(0), 0);
        C.is("errorPosition", x.errorPosition(), position);
        // With the error position of before, nothing tells the two from one another.
        Check.load(x, "end 7;;");
        C.isText("load changed something else", everything(x), everything(rich("")));
    }

    /** One entry of the log, and one more operation: undone, all is as before but what dropped out. */
    private static void deniedTell() {
        C.part("tell() that is DENIED");
        TimeGaps x = rich();
        C.is("tell", x.tell(1, 2, 1, 999), DENIED);
        C.is("value(11)", x.value(11), 40);
        C.is("value(12)", x.value(12), 8);
        C.are("log", Check.entry(x, 39), 8, 1, 999);
        C.are("log", Check.entry(x, 0), 7, 103, 102);
        C.is("tape", x.truncate(0), 2);
        C.is("errorPosition", x.errorPosition(), 6);
        C.is("value(2)", x.value(2), 5);
        C.is("undo", x.undo(), 7);
        C.are("log", Check.entry(x, 39), 7, 40, 132);
        C.are("log", Check.entry(x, 0), 7, 102, 101);
        for (int i = 6; i >= 0; i--) {
            C.is("undo", x.undo(), i);
        }
        C.is("undo", x.undo(), INVALID);
        // Without the denied one the second turn() can be undone, too.
        C.is("value(3)", x.value(3), 3);
        TimeGaps y = rich();
        for (int i = 7; i >= 0; i--) {
            C.is("undo", y.undo(), i);
        }
        C.is("value(3)", y.value(3), 2);
    }

    private static void asks(String call, ToLongFunction<TimeGaps> by) {
        leaves(call, RefusedTest::rich, by, by.applyAsLong(rich()));
        leaves(call, RefusedTest::full, by, by.applyAsLong(full()));
        leaves(call, RefusedTest::empty, by, by.applyAsLong(empty()));
    }

    private static void questions() {
        C.part("questions");
        for (int event = -1; event < 5; event++) {
            int e = event;
            asks("letter", x -> x.letter(e, e));
            asks("gap", x -> x.gap(e, 6));
            asks("event", x -> x.event(e, e));
            asks("bound", x -> x.bound(e, 1));
            asks("way", x -> x.way(e, 1, 1));
            asks("wayLength", x -> x.wayLength(e, 1));
            asks("relation", x -> x.relation(e, 1));
            asks("play", x -> x.play(e, 1));
            asks("pairs", x -> x.pairs(e));
            asks("direct", x -> x.direct(e, 1));
            asks("ordered", x -> x.ordered(e));
            asks("middle", x -> x.middle(e));
            asks("lastly", x -> x.lastly(e));
            asks("can", x -> x.can(e, 9));
            asks("why", x -> x.why(1, 2, 0, 5, e));
            asks("why, not denied", x -> x.why(1, 2, 0, 6, e));
            asks("ring", x -> x.ring(1, 2, 0, 5, e));
            asks("culprit", x -> x.culprit(1, 2, 0, e));
            asks("tightest", x -> x.tightest(1, 2, e));
            asks("spare", x -> x.spare(e));
            asks("needs", x -> x.needs(e));
            asks("ifTold", x -> x.ifTold(1, 2, 0, 9, e));
            asks("ifTold, denied", x -> x.ifTold(1, 2, 0, 5, e));
            asks("ifDropped", x -> x.ifDropped(0, e));
            asks("ifTurned", x -> x.ifTurned(0, e));
            asks("ifTurned, off", x -> x.ifTurned(3, e));
            asks("ifTurned, denied", x -> x.ifTurned(4, e));
            asks("ifPinned", x -> x.ifPinned(1, 9, e));
            asks("ifPinned, denied", x -> x.ifPinned(1, 3, e));
            asks("ifPinned, pinned", x -> x.ifPinned(3, 9, e));
            asks("log", x -> x.log(e, e));
            asks("listByte", x -> x.listByte(e * 90));
            asks("setupByte", x -> x.setupByte(e * 90));
        }
        asks("value", x -> x.value(7) + x.value(13));
        asks("widest", TimeGaps::widest);
        asks("freest", TimeGaps::freest);
        asks("needless", TimeGaps::needless);
        asks("leastEnd", TimeGaps::leastEnd);
        asks("slowest", TimeGaps::slowest);
        asks("tightShare", x -> (long) (x.tightShare() * 99));
        asks("meanRoom", x -> (long) (x.meanRoom() * 99));
        asks("lengths", x -> x.listLength() + x.setupLength());
    }
}
