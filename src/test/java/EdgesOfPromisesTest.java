/**
 * Promises 1 to 38: each sentence that names a boundary case. EdgesOfReasonsTest has the others.
 */
public final class EdgesOfPromisesTest {
    private static final Check C = new Check("EdgesOfPromisesTest");
    private static final int INVALID = TimeGaps.INVALID;
    private static final int NOT_FOUND = TimeGaps.NOT_FOUND;
    private static final int WRONG_STATE = TimeGaps.WRONG_STATE;
    private static final int FULL = TimeGaps.FULL;
    private static final int DENIED = TimeGaps.DENIED;
    private static final String BASE = "end 40;event a;event b;event c;gap start a least 4;gap a b least 6;"
            + "gap b c most 8;gap c a most 2 off;gap a b least 3;";

    public static void main(String[] args) {
        newObject();
        append();
        truncate();
        load();
        errorPosition();
        open();
        tell();
        drop();
        set();
        turn();
        pin();
        unpin();
        end();
        rename();
        reverse();
        tighten();
        thin();
        pinAll();
        keep();
        restore();
        undo();
        value();
        greatestValues();
        letter();
        gap();
        event();
        bound();
        way();
        wayLength();
        relation();
        play();
        pairs();
        direct();
        ordered();
        middle();
        lastly();
        can();
        widest();
        freest();
        C.finish();
    }

    private static TimeGaps base() {
        return Check.of(BASE);
    }

    /** Ten events and END 999. */
    private static String ten() {
        StringBuilder setup = new StringBuilder("end 999;");
        for (char name = 'a'; name < 'j'; name++) {
            setup.append("event ").append(name).append(';');
        }
        return setup.toString();
    }

    /** An event, and 24 gaps that END tells, too. */
    private static String gaps24() {
        StringBuilder setup = new StringBuilder("end 9;event a;");
        for (int gap = 0; gap < 24; gap++) {
            setup.append("gap start a most 9;");
        }
        return setup.toString();
    }

    private static void newObject() {
        C.part("1: as by the setup text \"end 100;\"; the log, the slots and the tape are empty");
        TimeGaps x = new TimeGaps();
        TimeGaps loaded = Check.of("end 100;");
        for (int what = 0; what < 13; what++) {
            C.is("value(" + what + ")", x.value(what), loaded.value(what));
        }
        C.is("value(0)", x.value(0), 100);
        C.isText("setup", Check.setup(x), "end 100;");
        C.isText("list", Check.list(x), "start 0\n");
        C.is("log", x.log(0, 0), NOT_FOUND);
        C.is("slot 0", x.restore(0), NOT_FOUND);
        C.is("slot 1", x.restore(1), NOT_FOUND);
        C.is("tape", x.truncate(0), 0);
        C.is("load of the empty tape", x.load(), INVALID);
        C.is("undo", x.undo(), INVALID);
    }

    private static void append() {
        C.part("2: twenty bytes, the most significant of each word first");
        for (int i = 0; i < 20; i++) {
            int[] words = {0x20202020, 0x20202020, 0x20202020, 0x20202020, 0x20202020};
            words[i / 4] ^= 1 << 24 - i % 4 * 8;
            TimeGaps x = new TimeGaps();
            C.is("append", x.append(words[0], words[1], words[2], words[3], words[4]), 20);
            C.is("load", x.load(), INVALID);
            C.is("the place of byte " + i, x.errorPosition(), i);
        }
        C.part("2: INVALID if it would exceed 900 bytes (nothing is appended)");
        for (int length : new int[] {0, 1, 880, 881, 899, 900}) {
            TimeGaps x = spaces(length);
            boolean room = length <= 880;
            C.is("append to " + length, x.append(-1, -1, -1, -1, -1), room ? length + 20 : INVALID);
            C.is("tape", x.truncate(0), room ? length + 20 : length);
            C.is("load", x.load(), INVALID);
            C.is("errorPosition", x.errorPosition(), length);
        }
    }

    private static TimeGaps spaces(int length) {
        TimeGaps x = new TimeGaps();
        for (int i = 0; i < length; i += 20) {
            x.append(0x20202020, 0x20202020, 0x20202020, 0x20202020, 0x20202020);
        }
        x.truncate(x.truncate(0) - length);
        return x;
    }

    private static void truncate() {
        C.part("3: n from 0 to the length of the tape; INVALID if n is out of range");
        for (int length : new int[] {0, 1, 20, 900}) {
            C.range("truncate at " + length, n -> spaces(length).truncate(n), 0, length, length, 0);
        }
        TimeGaps x = new TimeGaps();
        Check.tape(x, "end 9;");
        C.is("one too many", x.truncate(7), INVALID);
        C.is("one too few", x.truncate(-1), INVALID);
        C.is("the tape stays", x.load(), 0);
        Check.tape(x, "end 8;;");
        C.is("the last byte", x.truncate(1), 6);
        C.is("load", x.load(), 0);
        C.is("value(0)", x.value(0), 8);
    }

    private static void load() {
        C.part("4: the number of gaps");
        C.is("none", Check.load(new TimeGaps(), "end 9;"), 0);
        C.is("one", Check.load(new TimeGaps(), "end 9;event a;gap start a most 9 off;"), 1);
        C.is("24", Check.load(new TimeGaps(), gaps24()), 24);
        C.part("4: the tape is empty afterwards");
        TimeGaps x = new TimeGaps();
        Check.load(x, "end 9;");
        C.is("on success", x.truncate(0), 0);
        Check.load(x, "end 9");
        C.is("on an error", x.truncate(0), 0);
        C.is("load of the empty tape", x.load(), INVALID);
        loadReplaces();
        loadWithAnError();
    }

    private static void loadReplaces() {
        C.part("4: on success everything is replaced; the log and the slots are empty, nothing can be undone");
        TimeGaps x = base();
        for (int end = 41; end < 90; end++) {
            x.end(end);
        }
        x.pin(1, 7);
        x.keep(0);
        x.keep(1);
        C.is("load", Check.load(x, "end 9;event q;"), 0);
        C.isText("list", Check.list(x), "start 0\nq 0-9\n");
        C.is("value(2)", x.value(2), 0);
        C.is("value(4)", x.value(4), 0);
        C.is("value(11)", x.value(11), 0);
        C.is("log", x.log(0, 0), NOT_FOUND);
        C.is("value(12)", x.value(12), 0);
        C.is("undo", x.undo(), INVALID);
        C.is("slot 0", x.restore(0), NOT_FOUND);
        C.is("slot 1", x.restore(1), NOT_FOUND);
        x.end(10);
        C.is("value(12)", x.value(12), 1);
        C.are("log", Check.entry(x, 0), 7, 10, 9);
        C.is("undo", x.undo(), 0);
        C.is("value(0)", x.value(0), 9);
    }

    private static void loadWithAnError() {
        C.part("4: on an error everything but the tape and the error position stays");
        for (String wrong : new String[] {"", "end 0;", "end 9;event q;gap start q least 10;", BASE + "pin a 5;;"}) {
            TimeGaps x = base();
            x.pin(1, 7);
            x.keep(1);
            x.end(50);
            C.is("load", Check.load(x, wrong), INVALID);
            C.isText("list", Check.list(x), "start 0\na 7!\nb 13-50\nc 0-50\n");
            C.isText("setup", Check.setup(x), BASE.replace("end 40", "end 50") + "pin a 7;");
            C.is("value(11)", x.value(11), 2);
            C.are("log", Check.entry(x, 0), 5, 1, 7);
            C.are("log", Check.entry(x, 1), 7, 50, 40);
            C.is("restore(0)", x.restore(0), NOT_FOUND);
            C.is("undo", x.undo(), 1);
            C.is("undo", x.undo(), 0);
            C.is("value(4)", x.value(4), 0);
            C.is("restore(1)", x.restore(1), 5);
            C.is("value(4)", x.value(4), 1);
        }
    }

    private static void errorPosition() {
        C.part("5: NOT_FOUND if that load succeeded or there was no load");
        TimeGaps x = new TimeGaps();
        C.is("no load", x.errorPosition(), NOT_FOUND);
        x.load();
        C.is("an error at once", x.errorPosition(), 0);
        Check.load(x, "end 9;");
        C.is("good", x.errorPosition(), NOT_FOUND);
        Check.load(x, "end 9;x");
        C.is("an error", x.errorPosition(), 6);
        Check.load(x, "end x");
        C.is("the latest one", x.errorPosition(), 4);
        x.end(50);
        x.keep(0);
        x.restore(0);
        x.undo();
        Check.open(x, "a");
        C.is("operations leave it", x.errorPosition(), 4);
        Check.load(x, "end 9;");
        C.is("good again", x.errorPosition(), NOT_FOUND);
    }

    private static void open() {
        C.part("6: the name is the whole tape; INVALID if the tape is no NAME (the tape stays)");
        for (String word : new String[] {"", " a", "a ", "a\n", "\na", "a b", "a;", "a1", "abcdef", "pin", "start", "A"}) {
            TimeGaps x = new TimeGaps();
            Check.tape(x, word);
            C.is("open of \"" + word + "\"", x.open(), INVALID);
            C.is("tape", x.truncate(0), word.length());
            C.is("value(1)", x.value(1), 1);
        }
        C.part("6: the tape is empty afterwards");
        TimeGaps x = new TimeGaps();
        C.is("open", Check.open(x, "a"), 1);
        C.is("tape", x.truncate(0), 0);
        C.is("open of nothing", x.open(), INVALID);
        C.part("6: INVALID for the name of an event, FULL if there are 10 events (the tape stays)");
        x = Check.of(ten());
        Check.tape(x, "i");
        C.is("the last one's", x.open(), INVALID);
        C.is("tape", x.truncate(0), 1);
        Check.tape(x, "i");
        C.is("FULL", x.open(), FULL);
        C.is("tape", x.truncate(0), 2);
        C.is("the bytes stay", x.rename(9), 2);
        C.is("letter(9, 1)", x.letter(9, 1), 9);
        x = Check.of(ten().replace("event i;", ""));
        C.is("the last that there can be", Check.open(x, "ii"), 9);
        C.is("value(1)", x.value(1), 10);
    }

    private static void tell() {
        C.part("7: INVALID for an invalid argument or twice the same event");
        C.pair("tell", (one, other) -> base().tell(one, other, 0, 40));
        C.range("tell, kind", kind -> base().tell(1, 2, kind, 20), 0, 1, 5, 5);
        C.range("tell, n", n -> base().tell(2, 1, 0, n), 0, 999, 5, 5);
        C.range("tell, n of least", n -> Check.of("end 999;event a;").tell(0, 1, 1, n), 0, 999, 0, 0);
        C.part("7: a gap behind the others; it is on");
        TimeGaps x = base();
        C.is("tell", x.tell(3, 2, 1, 0), 5);
        int[] due = {3, 2, 1, 0, 1};
        for (int what = 0; what < 5; what++) {
            C.is("gap(5, " + what + ")", x.gap(5, what), due[what]);
        }
        C.part("7: FULL if there are 24 gaps");
        x = Check.of(gaps24().replaceFirst("gap start a most 9;", ""));
        C.is("the last that there can be", x.tell(0, 1, 0, 9), 23);
        C.is("one more", x.tell(0, 1, 0, 9), FULL);
        C.is("one more that would be denied", x.tell(0, 1, 1, 10), FULL);
        C.is("no entry", x.value(11), 1);
        C.is("no operation", x.value(12), 1);
        C.part("7: DENIED if a ring would deny (there is no such gap then)");
        x = base();
        C.is("by 1", x.tell(1, 2, 0, 5), DENIED);
        C.is("value(2)", x.value(2), 5);
        C.is("gap(5, 0)", x.gap(5, 0), INVALID);
        C.is("play(1, 2)", x.play(1, 2), 30);
        C.is("just not", x.tell(1, 2, 0, 6), 5);
    }

    private static void drop() {
        C.part("8: INVALID for an invalid argument");
        C.range("drop", gap -> base().drop(gap), 0, 4, 4, 4);
        C.is("without gaps", new TimeGaps().drop(0), INVALID);
        C.part("8: the numbers of those above it become less by 1");
        int[] n = {4, 6, 8, 2, 3};
        for (int gap = 0; gap < 5; gap++) {
            TimeGaps x = base();
            C.is("drop", x.drop(gap), 4);
            for (int i = 0; i < 4; i++) {
                C.is("gap(" + i + ", 3)", x.gap(i, 3), i < gap ? n[i] : n[i + 1]);
            }
            C.is("gap(4, 3)", x.gap(4, 3), INVALID);
        }
        TimeGaps x = Check.of(gaps24());
        C.is("of 24", x.drop(23), 23);
        C.is("again", x.drop(23), INVALID);
        for (int i = 22; i >= 0; i--) {
            C.is("down to none", x.drop(0), i);
        }
        C.is("none", x.drop(0), INVALID);
    }

    private static void set() {
        C.part("9: INVALID for an invalid argument");
        C.range("set, gap", gap -> base().set(gap, 1), 0, 4, 4, 3);
        C.range("set, n", n -> base().set(2, n), 0, 999, 8, 8);
        C.range("set, n of one that is off", n -> base().set(3, n), 0, 999, 2, 2);
        C.part("9: NOT_FOUND if it is so already; DENIED");
        TimeGaps x = base();
        C.is("so already", x.set(2, 8), NOT_FOUND);
        C.is("so already, off", x.set(3, 2), NOT_FOUND);
        C.is("least, denied by 1", x.set(1, 37), DENIED);
        C.is("N stays", x.gap(1, 3), 6);
        C.is("least, just not", x.set(1, 36), 6);
        x = Check.of("end 40;event a;event b;gap a b least 6;gap a b most 9;");
        C.is("most, denied by 1", x.set(1, 5), DENIED);
        C.is("most, just not", x.set(1, 6), 9);
        C.is("least, denied by 1", x.set(0, 7), DENIED);
        C.is("so already", x.set(0, 6), NOT_FOUND);
        x.turn(0);
        C.is("off, not denied", x.set(0, 999), 6);
        C.is("so already", x.set(0, 999), NOT_FOUND);
    }

    private static void turn() {
        C.part("10: 1 if it is on then, otherwise 0; INVALID for an invalid argument; DENIED");
        C.range("turn", gap -> base().turn(gap), 0, 4, 0, 0);
        C.is("without gaps", new TimeGaps().turn(0), INVALID);
        TimeGaps x = Check.of("end 40;event a;event b;gap a b least 6;gap a b most 5 off;gap a b most 6 off;");
        C.is("denied by 1", x.turn(1), DENIED);
        C.is("off still", x.gap(1, 4), 0);
        C.is("just not", x.turn(2), 1);
        C.is("off is not denied", x.turn(0), 0);
        C.is("on", x.turn(1), 1);
        C.is("denied", x.turn(0), DENIED);
    }

    private static void pin() {
        C.part("11: INVALID for an invalid argument");
        C.range("pin, event", event -> base().pin(event, 20), 0, 3, WRONG_STATE, 1);
        C.range("pin, time", time -> base().pin(3, time), 0, 40, 1, 1);
        C.range("pin, time of END 1", time -> Check.of("end 1;event a;").pin(1, time), 0, 1, 1, 1);
        C.range("pin, time of END 999", time -> Check.of("end 999;event a;").pin(1, time), 0, 999, 1, 1);
        C.part("11: WRONG_STATE for the START, or if the event is pinned; DENIED");
        TimeGaps x = base();
        C.is("START", x.pin(0, 0), WRONG_STATE);
        C.is("too early by 1", x.pin(1, 3), DENIED);
        C.is("too late by 1", x.pin(1, 35), DENIED);
        C.is("event(1, 3)", x.event(1, 3), NOT_FOUND);
        C.is("latest", x.pin(1, 34), 1);
        C.is("pinned", x.pin(1, 34), WRONG_STATE);
        C.is("pinned", x.pin(1, 0), WRONG_STATE);
        x.unpin(1);
        C.is("earliest", x.pin(1, 4), 1);
        x = Check.of(ten());
        for (int event = 1; event < 10; event++) {
            C.is("the number of pinned events then", x.pin(event, 100 * event + 99), event);
        }
    }

    private static void unpin() {
        C.part("12: the former time; INVALID for an invalid argument; WRONG_STATE if it is not pinned");
        C.range("unpin", event -> base().unpin(event), 0, 3, WRONG_STATE, WRONG_STATE);
        TimeGaps x = Check.of(BASE + "pin b 40;pin c 0;");
        C.is("START", x.unpin(0), WRONG_STATE);
        C.is("not pinned", x.unpin(1), WRONG_STATE);
        C.is("END", x.unpin(2), 40);
        C.is("0", x.unpin(3), 0);
        C.is("again", x.unpin(3), WRONG_STATE);
        C.is("event(3, 3)", x.event(3, 3), NOT_FOUND);
        C.is("value(4)", x.value(4), 0);
    }

    private static void end() {
        C.part("13: INVALID for an invalid argument; NOT_FOUND if it is so already; DENIED");
        C.range("end", end -> new TimeGaps().end(end), 1, 999, 100, 100);
        C.is("so already", new TimeGaps().end(100), NOT_FOUND);
        C.is("so already", Check.of("end 1;").end(1), NOT_FOUND);
        C.is("so already", Check.of("end 999;").end(999), NOT_FOUND);
        TimeGaps x = base();
        C.is("denied by 1", x.end(9), DENIED);
        C.is("value(0)", x.value(0), 40);
        C.is("just not", x.end(10), 40);
        C.is("event(2, 2)", x.event(2, 2), 1);
        C.is("denied by 1", x.end(9), DENIED);
        x = Check.of("end 40;event a;event b;gap b a least 3;pin a 20;");
        C.is("below a pin by 1", x.end(19), DENIED);
        C.is("just a pin", x.end(20), 40);
        x = Check.of("end 40;event a;pin a 0;");
        C.is("1", x.end(1), 40);
        C.is("0", x.end(0), INVALID);
    }

    private static void rename() {
        C.part("14: INVALID for an invalid argument");
        C.range("rename", event -> Check.rename(base(), event, "q"), 0, 3, WRONG_STATE, 1);
        C.part("14: INVALID if the tape is no NAME or the name of an event (the tape stays)");
        for (String word : new String[] {"", "a", "b", "c", "start", "q ", " q", "abcdef", "most", "Q", "q1"}) {
            for (int event = 0; event < 4; event++) {
                TimeGaps x = base();
                C.is("rename to \"" + word + "\"", Check.rename(x, event, word), INVALID);
                C.is("tape", x.truncate(0), word.length());
                C.isText("list", Check.list(x), "start 0\na 4-34\nb 10-40\nc 0-40\n");
            }
        }
        C.part("14: WRONG_STATE for the START (the tape stays)");
        TimeGaps x = base();
        C.is("START", Check.rename(x, 0, "q"), WRONG_STATE);
        C.is("tape", x.truncate(0), 1);
        C.part("14: the number of letters; the tape is empty afterwards");
        C.is("one", x.rename(1), 1);
        C.is("tape", x.truncate(0), 0);
        C.is("of nothing", x.rename(1), INVALID);
        C.is("five", Check.rename(x, 1, "abcde"), 5);
        C.is("letter(1, 4)", x.letter(1, 4), 5);
        C.is("fewer", Check.rename(x, 1, "xy"), 2);
        C.is("letter(1, 2)", x.letter(1, 2), NOT_FOUND);
        C.is("its own name", Check.rename(x, 1, "xy"), INVALID);
    }

    private static void reverse() {
        C.part("15: 1 if it is on, otherwise 0; INVALID for an invalid argument; DENIED");
        String setup = "end 40;event a;event b;gap a b most 5;gap a b least 0;gap a b most 0 off;";
        C.range("reverse", gap -> Check.of(setup).reverse(gap), 0, 2, 1, 0);
        C.is("without gaps", new TimeGaps().reverse(0), INVALID);
        TimeGaps x = Check.of("end 40;event a;event b;gap a b least 6;gap b a most 5;");
        C.is("denied by 1", x.reverse(0), DENIED);
        C.is("gap(0, 0)", x.gap(0, 0), 1);
        x.set(1, 6);
        C.is("just not", x.reverse(0), 1);
        C.is("gap(0, 0)", x.gap(0, 0), 2);
        C.is("gap(0, 1)", x.gap(0, 1), 1);
        x = Check.of("end 40;event a;gap start a least 1;");
        C.is("denied by the START", x.reverse(0), DENIED);
        x.set(0, 0);
        C.is("just not", x.reverse(0), 1);
        C.is("a is not behind the START then", x.event(1, 2), 1);
        x = Check.of("end 40;event a;gap start a least 1 off;");
        C.is("off, not denied", x.reverse(0), 0);
        C.is("on would be", x.turn(0), DENIED);
    }

    private static void tighten() {
        C.part("16: N of each gap that is on and not tight; NOT_FOUND if none gets another N");
        TimeGaps x = Check.of("end 40;event a;gap start a most 40;gap start a least 0;gap start a most 99 off;");
        C.is("all are tight", x.tighten(), NOT_FOUND);
        C.is("without gaps", new TimeGaps().tighten(), NOT_FOUND);
        C.is("loose by 1", setTo(x, 0, 41).tighten(), 1);
        C.is("gap(0, 3)", x.gap(0, 3), 40);
        C.is("gap(2, 3)", x.gap(2, 3), 99);
        x = Check.of("end 999;event a;gap start a least 0;gap start a least 998;gap start a most 999;pin a 999;");
        C.is("to 999", x.tighten(), 2);
        C.is("gap(0, 3)", x.gap(0, 3), 999);
        C.is("gap(1, 3)", x.gap(1, 3), 999);
        C.part("16: those for which that N would be below 0 stay");
        x = Check.of("end 40;event a;event b;gap a b least 1;gap b a most 0;");
        C.is("-1", x.tighten(), NOT_FOUND);
        C.is("no entry", x.value(11), 0);
        x = Check.of("end 40;event a;event b;gap a b least 0;gap b a most 1;");
        C.is("0", x.tighten(), 1);
        C.is("gap(1, 3)", x.gap(1, 3), 0);
        x = Check.of("end 40;event a;event b;gap a b most 1;gap b a least 0 off;gap a b least 0;pin a 9;pin b 10;");
        C.is("least", x.tighten(), 1);
        C.is("gap(2, 3)", x.gap(2, 3), 1);
        x = Check.of(gaps24().replace("most 9", "most 10"));
        C.is("all of 24", x.tighten(), 24);
        C.is("gap(23, 3)", x.gap(23, 3), 9);
        C.is("again", x.tighten(), NOT_FOUND);
        x = Check.of("end 9;event a;gap start a most 9;gap start a most 10;");
        x.drop(1);
        C.is("the loose one is dropped", x.tighten(), NOT_FOUND);
        C.part("16: no BOUND changes by that");
        x = Check.of(BASE + "gap a c most 999;gap c start most 30;gap start c least 0;");
        int[] before = bounds(x);
        C.is("tighten", x.tighten(), 3);
        C.are("bounds", bounds(x), before);
        C.is("again", x.tighten(), NOT_FOUND);
    }

    private static TimeGaps setTo(TimeGaps x, int gap, int n) {
        x.set(gap, n);
        return x;
    }

    private static int[] bounds(TimeGaps x) {
        int[] bounds = new int[x.value(1) * x.value(1)];
        for (int i = 0; i < bounds.length; i++) {
            bounds[i] = x.bound(i / x.value(1), i % x.value(1));
        }
        return bounds;
    }

    private static void thin() {
        C.part("17: as long as there is a needless gap, it is dropped; NOT_FOUND if none is");
        C.is("without gaps", new TimeGaps().thin(), NOT_FOUND);
        TimeGaps x = Check.of("end 40;event a;gap start a least 1;gap start a most 99 off;");
        C.is("needed and off", x.thin(), NOT_FOUND);
        C.is("no entry", x.value(11), 0);
        x = Check.of(gaps24());
        C.is("all", x.thin(), 24);
        C.is("value(2)", x.value(2), 0);
        C.is("again", x.thin(), NOT_FOUND);
        x = Check.of(gaps24().replace("most 9", "most 8"));
        C.is("all but the last", x.thin(), 23);
        C.is("value(7)", x.value(7), 1);
        x.drop(0);
        C.is("what was dropped", x.thin(), NOT_FOUND);
        x = Check.of("end 40;event a;gap start a most 8;gap start a most 9;gap start a most 8;gap start a most 7 off;");
        C.is("the smaller one of two alike", x.thin(), 2);
        C.is("gap(0, 3)", x.gap(0, 3), 8);
        C.is("gap(1, 3)", x.gap(1, 3), 7);
    }

    private static void pinAll() {
        C.part("18: all events that are not pinned (but the START) to their earliest times; NOT_FOUND if all are");
        C.is("the START alone", new TimeGaps().pinAll(), NOT_FOUND);
        TimeGaps x = Check.of("end 40;event a;gap start a least 3;");
        C.is("one", x.pinAll(), 1);
        C.is("event(1, 3)", x.event(1, 3), 3);
        C.is("event(0, 3)", x.event(0, 3), NOT_FOUND);
        C.is("all are", x.pinAll(), NOT_FOUND);
        C.is("value(12)", x.value(12), 1);
        x = Check.of(ten() + "gap a i least 999;pin d 500;");
        C.is("all but one", x.pinAll(), 8);
        C.is("event(1, 3)", x.event(1, 3), 0);
        C.is("event(4, 3)", x.event(4, 3), 500);
        C.is("event(9, 3)", x.event(9, 3), 999);
        C.is("value(4)", x.value(4), 9);
        x.unpin(9);
        C.is("the last one", x.pinAll(), 1);
    }

    private static void keep() {
        C.part("19: INVALID for an invalid argument");
        C.range("keep", slot -> base().keep(slot), 0, 1, 5, 5);
        C.part("19: the number of gaps");
        C.is("none", new TimeGaps().keep(1), 0);
        C.is("24", Check.of(gaps24()).keep(0), 24);
        C.part("19: in place of what it had");
        TimeGaps x = base();
        x.keep(0);
        x.keep(1);
        x.end(41);
        C.is("keep", x.keep(1), 5);
        x.end(42);
        x.restore(0);
        C.is("the one", x.value(0), 40);
        x.restore(1);
        C.is("the other", x.value(0), 41);
        C.is("keep is no operation", x.value(12), 4);
    }

    private static void restore() {
        C.part("20: INVALID for an invalid argument; NOT_FOUND if the slot is empty");
        C.range("restore of empty ones", slot -> base().restore(slot), 0, 1, NOT_FOUND, NOT_FOUND);
        C.range("restore", slot -> kept().restore(slot), 0, 1, 5, 5);
        TimeGaps x = base();
        x.keep(1);
        C.is("the other one", x.restore(0), NOT_FOUND);
        C.is("no operation", x.value(12), 0);
        C.part("20: the slot keeps it");
        x.drop(0);
        C.is("restore", x.restore(1), 5);
        x.drop(4);
        C.is("again", x.restore(1), 5);
        C.part("20: everything that operations change, from full to empty and back");
        x = new TimeGaps();
        x.keep(0);
        for (char name = 'a'; name < 'j'; name++) {
            Check.open(x, "" + name);
        }
        for (int gap = 0; gap < 24; gap++) {
            x.tell(0, 1, 0, gap);
        }
        x.pinAll();
        for (int end = 101; end < 110; end++) {
            x.end(end);
        }
        x.keep(1);
        C.is("to empty", x.restore(0), 0);
        C.isText("list", Check.list(x), "start 0\n");
        C.is("value(11)", x.value(11), 0);
        C.is("value(5)", x.value(5), 0);
        C.is("freest", x.freest(), 0);
        C.is("to full", x.restore(1), 24);
        C.is("value(5)", x.value(5), 60);
        C.is("value(0)", x.value(0), 109);
        C.is("value(1)", x.value(1), 10);
        C.is("value(4)", x.value(4), 9);
        C.is("value(11)", x.value(11), 40);
        C.are("log", Check.entry(x, 0), 0, 4, 5);
        C.are("log", Check.entry(x, 39), 7, 109, 108);
        C.is("bound(1, 2)", x.bound(1, 2), 0);
        C.is("undo", x.undo(), 7);
        C.is("widest", x.widest(), NOT_FOUND);
        C.is("value(5)", x.value(5), 0);
        x = base();
        x.keep(0);
        x.set(0, 30);
        C.is("earliest", x.event(1, 0), 30);
        C.is("restore", x.restore(0), 5);
        C.is("earliest as it was", x.event(1, 0), 4);
        C.is("latest as it was", x.event(1, 1), 34);
    }

    private static TimeGaps kept() {
        TimeGaps x = base();
        x.keep(0);
        x.keep(1);
        return x;
    }

    private static void undo() {
        C.part("21: the number of operations that can still be undone; INVALID if there is none");
        TimeGaps x = new TimeGaps();
        C.is("none", x.undo(), INVALID);
        x.end(1);
        C.is("one", x.undo(), 0);
        C.is("none", x.undo(), INVALID);
        for (int end = 1; end < 100; end++) {
            x.end(end);
        }
        for (int i = 7; i >= 0; i--) {
            C.is("undo", x.undo(), i);
            C.is("value(0)", x.value(0), 91 + i);
        }
        C.is("none", x.undo(), INVALID);
        C.is("value(0)", x.value(0), 91);
        Check.open(x, "a");
        x.tell(0, 1, 1, 90);
        C.is("earliest", x.event(1, 0), 90);
        x.undo();
        C.is("earliest again", x.event(1, 0), 0);
        C.is("latest again", x.event(1, 1), 91);
        C.are("way again", Check.way(x, 1, 0), 201);
        C.is("undo", x.undo(), 0);
        C.is("steps again", x.value(5), 0);
        C.part("21: the latest operation that has not been undone");
        x.end(200);
        x.end(300);
        x.undo();
        x.end(400);
        C.is("undo", x.undo(), 1);
        C.is("value(0)", x.value(0), 200);
        C.is("undo", x.undo(), 0);
        C.is("value(0)", x.value(0), 91);
        C.part("21: a restore() with a full log is undone, too");
        x = new TimeGaps();
        x.keep(0);
        for (int end = 1; end < 50; end++) {
            x.end(end);
        }
        x.restore(0);
        C.is("value(11)", x.value(11), 0);
        C.is("undo", x.undo(), 7);
        C.is("value(11)", x.value(11), 40);
        C.are("log", Check.entry(x, 0), 7, 10, 9);
        C.are("log", Check.entry(x, 39), 7, 49, 48);
    }

    private static void value() {
        C.part("22: INVALID for any other what");
        C.range("value", what -> base().value(what), 0, 12, 40, 0);
        C.part("22: the least values");
        TimeGaps x = Check.of("end 1;");
        int[] due = {1, 1, 0, 0, 0, 0, 0, 0, 1, 0, 0, 0, 0};
        for (int what = 0; what < 13; what++) {
            C.is("value(" + what + ")", x.value(what), due[what]);
        }
    }

    private static void greatestValues() {
        C.part("22: the greatest values");
        TimeGaps x = Check.of(ten());
        int[] due = {999, 10, 0, 0, 0, 18, 0, 0, 1, 0, 8991, 0, 0};
        for (int what = 0; what < 13; what++) {
            C.is("value(" + what + ")", x.value(what), due[what]);
        }
        // Each event has to be at END: 24 gaps are tight, the pins tell all that they tell.
        for (int gap = 0; gap < 24; gap++) {
            x.tell(0, 1 + gap % 9, gap / 9 % 2, 999);
        }
        x.pinAll();
        for (int i = 0; i < 8; i++) {
            x.turn(23);
            x.turn(23);
        }
        int[] then = {999, 10, 24, 24, 9, 60, 24, 0, 10, 999, 0, 40, 8};
        for (int what = 0; what < 13; what++) {
            C.is("value(" + what + ")", x.value(what), then[what]);
        }
        x = Check.of(ten());
        for (int event = 1; event < 10; event++) {
            x.tell(0, event, 1, 1);
            x.tell(0, event, 0, 998);
        }
        for (int i = 0; i < 6; i++) {
            x.tell(1 + i, 2 + i, 1, 1);
        }
        C.is("value(6)", x.value(6), 12);
        C.is("value(7)", x.value(7), 12);
    }

    private static void letter() {
        C.part("23: INVALID for an invalid argument or a negative i; NOT_FOUND if the name is not so long");
        TimeGaps x = Check.of("end 9;event a;event vwxyz;");
        C.range("letter, event", event -> x.letter(event, 0), 0, 2, 19, 22);
        C.index("letter of one", i -> x.letter(1, i), 1, 1);
        C.index("letter of five", i -> x.letter(2, i), 5, 26);
        C.index("letter of the START", i -> x.letter(0, i), 5, 20);
        C.is("INVALID before NOT_FOUND", x.letter(3, 5), INVALID);
        C.part("23: 1 for a to 26 for z");
        for (int i = 0; i < 26; i++) {
            C.is("letter", letterOf((char) ('a' + i)), i + 1);
        }
    }

    private static int letterOf(char name) {
        TimeGaps x = new TimeGaps();
        Check.open(x, "" + name);
        return x.letter(1, 0);
    }

    private static void gap() {
        C.part("24: INVALID for an invalid argument or any other what");
        TimeGaps x = base();
        C.range("gap, gap", gap -> x.gap(gap, 3), 0, 4, 4, 3);
        C.range("gap, what", what -> x.gap(4, what), 0, 7, 1, 3);
        C.range("gap, what of one that is off", what -> x.gap(3, what), 0, 7, 3, 0);
        C.is("without gaps", new TimeGaps().gap(0, 0), INVALID);
        C.part("24: 5 and 6 are 0 otherwise, and for one that is off; 7 is 0 for one that is off");
        for (int what = 4; what < 8; what++) {
            C.is("gap(3, " + what + ")", x.gap(3, what), 0);
        }
        TimeGaps y = Check.of("end 999;event a;event b;gap a b most 999;gap b a least 0;gap b a most 999 off;");
        C.is("gap(0, 7)", y.gap(0, 7), 999);
        C.is("gap(1, 7)", y.gap(1, 7), 0);
        C.is("gap(2, 7)", y.gap(2, 7), 0);
        y.turn(1);
        C.is("gap(0, 7)", y.gap(0, 7), 0);
        C.is("gap(0, 5)", y.gap(0, 5), 1);
        C.is("gap(0, 6)", y.gap(0, 6), 0);
        // The greatest LENGTH above the least BOUND.
        y = Check.of("end 999;event a;event b;gap b a most 999;gap a b least 999;");
        C.is("gap(0, 7)", y.gap(0, 7), 1998);
    }

    private static void event() {
        C.part("25: INVALID for an invalid argument or any other what; NOT_FOUND if it is not pinned");
        TimeGaps x = base();
        C.range("event, event", event -> x.event(event, 1), 0, 3, 0, 40);
        C.range("event, what", what -> x.event(1, what), 0, 4, 4, 3);
        C.is("not pinned", x.event(1, 3), NOT_FOUND);
        C.is("the START", x.event(0, 3), NOT_FOUND);
        TimeGaps y = Check.of("end 9;event a;event b;pin a 0;pin b 9;");
        C.is("pinned to 0", y.event(1, 3), 0);
        C.is("pinned to END", y.event(2, 3), 9);
        C.part("25: how many times are possible, how many gaps that are on have it");
        C.is("one time", y.event(1, 2), 1);
        C.is("1000 times", Check.of("end 999;event a;").event(1, 2), 1000);
        C.is("no gaps", y.event(1, 4), 0);
        TimeGaps z = Check.of(gaps24());
        C.is("24 gaps", z.event(0, 4), 24);
        C.is("24 gaps", z.event(1, 4), 24);
        z.turn(23);
        C.is("one is off", z.event(1, 4), 23);
    }

    private static void bound() {
        C.part("26: NO_BOUND for an invalid argument");
        TimeGaps x = base();
        C.beyond("bound, one", one -> x.bound(one, 1), 0, 3, TimeGaps.NO_BOUND);
        C.beyond("bound, other", other -> x.bound(1, other), 0, 3, TimeGaps.NO_BOUND);
        C.is("bound(3, 3)", x.bound(3, 3), 0);
        C.is("bound(0, 3)", x.bound(0, 3), 40);
        C.is("bound(3, 0)", x.bound(3, 0), 0);
        C.part("26: the greatest and the least BOUND");
        TimeGaps y = Check.of(ten() + "gap a i least 999;");
        C.is("bound(1, 9)", y.bound(1, 9), 999);
        C.is("bound(9, 1)", y.bound(9, 1), -999);
        C.is("bound(9, 5)", y.bound(9, 5), 0);
        C.is("bound(5, 1)", y.bound(5, 1), 0);
    }

    private static void way() {
        C.part("27: INVALID for an invalid argument, twice the same event or a negative i");
        TimeGaps x = base();
        C.pair("way", (one, other) -> x.way(one, other, 0));
        C.part("27: NOT_FOUND if the WAY has not so many");
        C.index("way of one", i -> x.way(0, 3, i), 1, 103);
        C.index("way of three", i -> x.way(3, 1, i), 3, 1);
        C.part("27: 100, 200, 300 and 400 plus an event");
        TimeGaps y = Check.of(ten() + "pin i 7;");
        C.are("END, first", Check.way(y, 0, 1), 101);
        C.are("END, last", Check.way(y, 0, 8), 108);
        C.are("0, first", Check.way(y, 1, 0), 201);
        C.are("0, last", Check.way(y, 8, 0), 208);
        C.are("from the START by a pin", Check.way(y, 0, 9), 309);
        C.are("to the START by a pin", Check.way(y, 9, 0), 409);
        y.pin(1, 5);
        C.are("two pins", Check.way(y, 1, 9), 401, 309);
        TimeGaps z = Check.of(gaps24().replace("most 9", "most 8"));
        C.is("the first gap", z.way(0, 1, 0), 0);
        z.set(23, 7);
        C.is("the last gap", z.way(0, 1, 0), 23);
    }

    private static void wayLength() {
        C.part("28: INVALID for an invalid argument or twice the same event");
        TimeGaps x = base();
        C.pair("wayLength", x::wayLength);
        C.part("28: the shortest and the longest WAY");
        C.is("one", x.wayLength(0, 3), 1);
        StringBuilder setup = new StringBuilder(ten());
        setup.append("gap start a most 1;");
        for (char name = 'a'; name < 'i'; name++) {
            setup.append("gap ").append(name).append(' ').append((char) (name + 1)).append(" most 1;");
        }
        TimeGaps y = Check.of(setup.toString());
        C.is("nine", y.wayLength(0, 9), 9);
        C.are("way(0, 9)", Check.way(y, 0, 9), 0, 1, 2, 3, 4, 5, 6, 7, 8);
        C.index("way of nine", i -> y.way(0, 9, i), 9, 8);
        C.is("back by 0", y.wayLength(9, 0), 1);
    }

    private static void relation() {
        C.part("29: INVALID for an invalid argument or twice the same event");
        TimeGaps x = base();
        C.pair("relation", x::relation);
        C.part("29: the first that holds");
        int[][] due = {
            // The least and the greatest time of the other one less that of the one, and the relation.
            {0, 0, 0}, {1, 1, 1}, {1, 9, 1}, {-1, -1, 2}, {-9, -1, 2}, {0, 1, 3}, {0, 9, 3}, {-1, 0, 4}, {-9, 0, 4},
            {-1, 1, 5}, {-9, 9, 5}};
        for (int[] row : due) {
            TimeGaps y = Check.of("end 40;event a;event b;");
            difference(y, row[0], row[1]);
            C.is("bound(1, 2)", y.bound(1, 2), row[1]);
            C.is("bound(2, 1)", y.bound(2, 1), -row[0]);
            C.is("relation of " + row[0] + " to " + row[1], y.relation(1, 2), row[2]);
            int[] back = {0, 2, 1, 4, 3, 5};
            C.is("the other way round", y.relation(2, 1), back[row[2]]);
        }
    }

    /** Tells that event 2 is behind event 1 by least at least and by most at most. */
    private static void difference(TimeGaps y, int least, int most) {
        C.is("least", least >= 0 ? y.tell(1, 2, 1, least) : y.tell(2, 1, 0, -least), 0);
        C.is("most", most >= 0 ? y.tell(1, 2, 0, most) : y.tell(2, 1, 1, -most), 1);
    }

    private static void play() {
        C.part("30: INVALID for an invalid argument or twice the same event");
        TimeGaps x = base();
        C.pair("play", x::play);
        C.part("30: the least and the greatest");
        TimeGaps y = Check.of("end 999;event a;event b;event c;gap a c most 3;gap a c least 3;");
        C.is("none", y.play(1, 3), 0);
        C.is("all", y.play(1, 2), 999 - 3 + 999);
        C.is("END", y.play(0, 2), 999);
        C.is("twice END", Check.of("end 999;event a;event b;").play(2, 1), 1998);
    }

    private static void pairs() {
        C.part("31: INVALID for an invalid argument");
        TimeGaps x = base();
        C.range("pairs", x::pairs, 0, 5, 0, 2);
        C.part("31: pairs of an event and an event with a greater number");
        for (int how = 0; how < 6; how++) {
            C.is("the START alone", new TimeGaps().pairs(how), 0);
        }
        TimeGaps y = Check.of(ten());
        C.is("never behind", y.pairs(3), 9);
        C.is("anything", y.pairs(5), 36);
        y.pinAll();
        C.is("the same", y.pairs(0), 45);
        TimeGaps z = Check.of("end 9;event a;event b;gap a b least 1;");
        C.is("ahead", z.pairs(1), 2);
        C.is("behind", z.pairs(2), 0);
        z.reverse(0);
        C.is("ahead", z.pairs(1), 1);
        C.is("behind", z.pairs(2), 1);
    }

    private static void direct() {
        C.part("32: INVALID for an invalid argument or twice the same event; NOT_FOUND if there is none");
        TimeGaps x = base();
        C.pair("direct", x::direct);
        C.is("none", new TimeGaps().direct(0, 0), INVALID);
        C.is("by 0 alone", x.direct(3, 0), NOT_FOUND);
        TimeGaps z = Check.of("end 9;event a;event b;gap start b most 8;");
        C.is("to another one", z.direct(0, 1), NOT_FOUND);
        C.is("from another one", z.direct(1, 2), NOT_FOUND);
        C.is("it", z.direct(0, 2), 0);
        C.part("32: the smallest gap that is on");
        TimeGaps y = Check.of(gaps24());
        C.is("as far as END", y.direct(0, 1), 0);
        C.is("back", y.direct(1, 0), NOT_FOUND);
        for (int gap = 0; gap < 23; gap++) {
            y.turn(gap);
            C.is("direct", y.direct(0, 1), gap + 1);
        }
        y.set(23, 10);
        C.is("greater by 1", y.direct(0, 1), NOT_FOUND);
        y.set(23, 8);
        C.is("less by 1", y.direct(0, 1), 23);
        y.turn(23);
        C.is("all are off", y.direct(0, 1), NOT_FOUND);
    }

    private static void ordered() {
        C.part("33: INVALID for a negative i; NOT_FOUND if there are not so many");
        C.index("ordered of one", i -> new TimeGaps().ordered(i), 1, 0);
        C.index("ordered of four", i -> base().ordered(i), 4, 2);
        C.index("ordered of ten", i -> Check.of(ten()).ordered(i), 10, 9);
        C.part("33: of several the smallest event first");
        TimeGaps x = Check.of("end 40;event a;event b;gap start a least 1;");
        C.is("later by 1", x.ordered(1), 2);
        C.is("later by 1", x.ordered(2), 1);
        x.set(0, 0);
        C.is("alike", x.ordered(0), 0);
        C.is("alike", x.ordered(1), 1);
        C.is("alike", x.ordered(2), 2);
    }

    private static void middle() {
        C.part("34: INVALID for an invalid argument");
        C.range("middle", event -> base().middle(event), 0, 3, 0, 20);
        C.is("the START alone", new TimeGaps().middle(0), 0);
        C.part("34: divided by 2 and rounded down");
        C.is("0 and 1", Check.of("end 1;event a;").middle(1), 0);
        C.is("0 and 2", Check.of("end 2;event a;").middle(1), 1);
        C.is("0 and 999", Check.of("end 999;event a;").middle(1), 499);
        C.is("3 and 6", Check.of("end 6;event a;gap start a least 3;").middle(1), 4);
        C.part("34: each event that is not pinned (but the START), by numbers");
        TimeGaps x = Check.of("end 9;event a;event b;event c;gap a b least 1;gap b c least 1;pin c 9;");
        C.is("middle(1)", x.middle(1), 3);
        C.is("middle(2)", x.middle(2), 6);
        C.is("middle(3)", x.middle(3), 9);
        C.is("pins stay", x.value(4), 1);
        StringBuilder setup = new StringBuilder(ten());
        for (char name = 'a'; name < 'i'; name++) {
            setup.append("gap ").append(name).append(' ').append((char) (name + 1)).append(" least 0;");
        }
        int[] due = {0, 499, 749, 874, 936, 967, 983, 991, 995, 997};
        for (int event = 0; event < 10; event++) {
            C.is("middle(" + event + ")", Check.of(setup.toString()).middle(event), due[event]);
        }
    }

    private static void lastly() {
        C.part("35: INVALID for a negative i; NOT_FOUND if there are not so many");
        C.index("lastly of one", i -> new TimeGaps().lastly(i), 1, 0);
        C.index("lastly of four", i -> base().lastly(i), 4, 3);
        C.index("lastly of ten", i -> Check.of(ten()).lastly(i), 10, 9);
        C.part("35: of several the smallest event first");
        TimeGaps x = Check.of("end 40;event a;event b;gap start b most 39;");
        C.is("earlier by 1", x.lastly(1), 2);
        C.is("earlier by 1", x.lastly(2), 1);
        x.set(0, 40);
        C.is("alike", x.lastly(1), 1);
        C.is("alike", x.lastly(2), 2);
        x.set(0, 0);
        C.is("alike", x.lastly(0), 0);
        C.is("alike", x.lastly(1), 2);
    }

    private static void can() {
        C.part("36: INVALID for an invalid argument");
        C.range("can", event -> base().can(event, 0), 0, 3, 1, 1);
        C.is("INVALID with any time", base().can(4, -1), INVALID);
        C.part("36: 1 if the time is from its earliest to its latest one, otherwise 0; any number");
        int[][] times = {{0, 0}, {4, 34}, {10, 40}, {0, 40}};
        for (int event = 0; event < 4; event++) {
            TimeGaps x = base();
            C.is("below", x.can(event, times[event][0] - 1), 0);
            C.is("first", x.can(event, times[event][0]), 1);
            C.is("last", x.can(event, times[event][1]), 1);
            C.is("above", x.can(event, times[event][1] + 1), 0);
            C.is("least int", x.can(event, Integer.MIN_VALUE), 0);
            C.is("greatest int", x.can(event, Integer.MAX_VALUE), 0);
        }
    }

    private static void widest() {
        C.part("37: NOT_FOUND if the START is alone");
        C.is("alone", new TimeGaps().widest(), NOT_FOUND);
        C.is("two", Check.of("end 1;event a;").widest(), 1);
        C.part("37: of several those with the smallest first one, of these the smallest other one");
        C.is("alike", Check.of(ten()).widest(), 1);
        C.is("the last one", Check.of(ten() + "gap a start least 0;gap b start least 0;gap c start least 0;"
                + "gap d start least 0;gap e start least 0;gap f start least 0;gap g start least 0;"
                + "gap h start least 0;").widest(), 9);
        C.is("greater by 1", Check.of("end 40;event a;event b;gap start a most 39;").widest(), 2);
        C.is("all 0", Check.of("end 40;event a;event b;pin a 0;pin b 0;").widest(), 1);
    }

    private static void freest() {
        C.part("38: of several the smallest one");
        C.is("alone", new TimeGaps().freest(), 0);
        C.is("alike", Check.of(ten()).freest(), 1);
        C.is("more by 1", Check.of("end 40;event a;event b;gap start a most 39;").freest(), 2);
        C.is("all 1, the START", Check.of("end 40;event a;event b;pin a 0;pin b 40;").freest(), 0);
        C.is("more than the START by 1", Check.of("end 40;event a;event b;gap start b most 1;pin a 0;").freest(), 2);
    }
}
