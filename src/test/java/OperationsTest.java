/** Promises 6 to 18: operations, each with its entry of the log and its undo. */
public final class OperationsTest {
    private static final Check C = new Check("OperationsTest");
    private static final String BASE = "end 40;event a;event b;event c;gap start a least 4;gap a b least 6;"
            + "gap b c most 8;gap c a most 2 off;gap a b least 3;";

    public static void main(String[] args) {
        open();
        openWrong();
        tell();
        tellDenied();
        tellFull();
        drop();
        set();
        turn();
        pin();
        unpin();
        end();
        rename();
        reverse();
        tighten();
        tightenBelowNought();
        thin();
        thinOneOfTwo();
        pinAll();
        C.finish();
    }

    /** What was refused leaves everything as it was. */
    private static void unchanged(TimeGaps x, String setup, int entries, int undos) {
        C.isText("setup", Check.setup(x), setup);
        C.is("value(11)", x.value(11), entries);
        C.is("value(12)", x.value(12), undos);
    }

    private static void open() {
        C.part("promise 6");
        TimeGaps x = new TimeGaps();
        C.is("open", Check.open(x, "a"), 1);
        C.is("tape", x.truncate(0), 0);
        C.are("log", Check.entry(x, 0), 0, 1, 2);
        C.is("open", Check.open(x, "zzzzz"), 2);
        C.are("log", Check.entry(x, 1), 0, 2, 3);
        C.isText("list", Check.list(x), "start 0\na 0-100\nzzzzz 0-100\n");
        C.is("event(2, 3)", x.event(2, 3), TimeGaps.NOT_FOUND);
        C.is("value(12)", x.value(12), 2);
        x.pin(2, 3);
        C.is("undo", x.undo(), 2);
        C.is("undo", x.undo(), 1);
        C.is("value(1)", x.value(1), 2);
        C.is("value(11)", x.value(11), 1);
        C.is("open", Check.open(x, "b"), 2);
        C.is("event(2, 3)", x.event(2, 3), TimeGaps.NOT_FOUND);
        C.isText("setup", Check.setup(x), "end 100;event a;event b;");
    }

    private static void openWrong() {
        C.part("promise 6, wrong names");
        TimeGaps x = Check.of("end 9;event a;event bc;");
        String[] words = {"", "A", "abcdef", "a b", " d", "d ", "d\n", "d1", "1", ";", "a", "bc", "start", "end",
            "event", "gap", "most", "least", "off", "pin", "\u00e9", "d;"};
        for (String word : words) {
            Check.tape(x, word);
            C.is("open of \"" + word + "\"", x.open(), TimeGaps.INVALID);
            C.is("tape", x.truncate(0), word.length());
            x.truncate(word.length());
        }
        unchanged(x, "end 9;event a;event bc;", 0, 0);
        for (char name = 'd'; name < 'k'; name++) {
            C.is("open", Check.open(x, "" + name), 3 + name - 'd');
        }
        C.is("value(1)", x.value(1), 10);
        C.is("open at 10", Check.open(x, "k"), TimeGaps.FULL);
        C.is("tape", x.truncate(0), 1);
        C.is("value(11)", x.value(11), 7);
        x.truncate(1);
        C.is("open at 10, no new name", Check.open(x, "d"), TimeGaps.INVALID);
        x.truncate(1);
        C.is("undo", x.undo(), 6);
        C.is("open", Check.open(x, "k"), 9);
    }

    private static void tell() {
        C.part("promise 7");
        TimeGaps x = Check.of("end 40;event a;event b;");
        C.is("tell", x.tell(1, 2, 1, 5), 0);
        C.are("log", Check.entry(x, 0), 1, 0, 5);
        C.is("tell", x.tell(1, 2, 0, 999), 1);
        C.is("tell", x.tell(2, 1, 0, 0), 2);
        C.are("log", Check.entry(x, 2), 1, 2, 0);
        C.is("tell", x.tell(0, 1, 1, 3), 3);
        C.isText("setup", Check.setup(x), "end 40;event a;event b;gap a b least 5;gap a b most 999;"
                + "gap b a most 0;gap start a least 3;");
        C.isText("list", Check.list(x), "start 0\na 3-35\nb 8-40\n");
        C.is("one", x.tell(-1, 2, 0, 5), TimeGaps.INVALID);
        C.is("one", x.tell(3, 2, 0, 5), TimeGaps.INVALID);
        C.is("other", x.tell(1, -1, 0, 5), TimeGaps.INVALID);
        C.is("other", x.tell(1, 3, 0, 5), TimeGaps.INVALID);
        C.is("twice", x.tell(1, 1, 0, 5), TimeGaps.INVALID);
        C.is("kind", x.tell(1, 2, -1, 5), TimeGaps.INVALID);
        C.is("kind", x.tell(1, 2, 2, 5), TimeGaps.INVALID);
        C.is("n", x.tell(1, 2, 0, -1), TimeGaps.INVALID);
        C.is("n", x.tell(1, 2, 0, 1000), TimeGaps.INVALID);
        C.is("value(11)", x.value(11), 4);
        C.is("undo", x.undo(), 3);
        C.isText("list", Check.list(x), "start 0\na 0-35\nb 5-40\n");
    }

    private static void tellDenied() {
        C.part("promise 7, denied");
        TimeGaps x = Check.of(BASE);
        C.is("most", x.tell(1, 2, 0, 5), TimeGaps.DENIED);
        C.are("log", Check.entry(x, 0), 8, 0, 5);
        C.is("least", x.tell(1, 2, 1, 37), TimeGaps.DENIED);
        C.are("log", Check.entry(x, 1), 8, 1, 37);
        C.is("value(2)", x.value(2), 5);
        C.is("value(12)", x.value(12), 2);
        C.is("to the START", x.tell(1, 0, 1, 0), TimeGaps.DENIED);
        C.is("just so", x.tell(1, 2, 0, 6), 5);
        C.is("play", x.play(1, 2), 0);
        C.is("just so", x.tell(1, 2, 1, 6), 6);
        C.is("a ring through the START", x.tell(3, 2, 1, 41), TimeGaps.DENIED);
        C.is("just so", x.tell(3, 2, 1, 40), 7);
        C.isText("list", Check.list(x), "start 0\na 34\nb 40\nc 0\n");
        C.is("undo", x.undo(), 6);
        C.is("undo of a denied one", x.undo(), 5);
        C.is("value(11)", x.value(11), 5);
        C.is("value(2)", x.value(2), 7);
    }

    private static void tellFull() {
        C.part("promise 7, full");
        TimeGaps x = Check.of("end 40;event a;event b;");
        for (int i = 0; i < 24; i++) {
            C.is("tell", x.tell(1, 2, 0, i), i);
        }
        C.is("full", x.tell(1, 2, 0, 9), TimeGaps.FULL);
        C.is("full, not denied", x.tell(1, 2, 1, 50), TimeGaps.FULL);
        C.is("invalid, not full", x.tell(1, 2, 2, 9), TimeGaps.INVALID);
        C.is("twice, not full", x.tell(2, 2, 1, 9), TimeGaps.INVALID);
        C.is("value(11)", x.value(11), 24);
        C.is("value(12)", x.value(12), 8);
        C.is("drop", x.drop(0), 23);
        C.is("tell", x.tell(1, 2, 0, 9), 23);
    }

    private static void drop() {
        C.part("promise 8");
        TimeGaps x = Check.of(BASE);
        C.is("drop", x.drop(1), 4);
        C.are("log", Check.entry(x, 0), 2, 1, 6);
        C.isText("setup", Check.setup(x), "end 40;event a;event b;event c;gap start a least 4;"
                + "gap b c most 8;gap c a most 2 off;gap a b least 3;");
        C.is("event(2, 0)", x.event(2, 0), 7);
        C.is("way(2, 1, 0)", x.way(2, 1, 0), 3);
        C.is("drop of one that is off", x.drop(2), 3);
        C.are("log", Check.entry(x, 1), 2, 2, 2);
        C.is("drop the last", x.drop(2), 2);
        C.is("drop", x.drop(0), 1);
        C.is("drop", x.drop(1), TimeGaps.INVALID);
        C.is("drop", x.drop(0), 0);
        C.are("log", Check.entry(x, 4), 2, 0, 8);
        C.is("drop", x.drop(0), TimeGaps.INVALID);
        C.is("drop", x.drop(-1), TimeGaps.INVALID);
        C.is("drop", x.drop(Integer.MIN_VALUE), TimeGaps.INVALID);
        C.is("value(11)", x.value(11), 5);
        for (int i = 4; i >= 0; i--) {
            C.is("undo", x.undo(), i);
        }
        C.isText("setup", Check.setup(x), BASE);
    }

    private static void set() {
        C.part("promise 9");
        TimeGaps x = Check.of(BASE);
        C.is("set", x.set(2, 5), 8);
        C.are("log", Check.entry(x, 0), 3, 2, 8);
        C.is("bound(2, 3)", x.bound(2, 3), 5);
        C.is("looser", x.set(2, 999), 5);
        C.is("bound(2, 3)", x.bound(2, 3), 30);
        C.is("so already", x.set(2, 999), TimeGaps.NOT_FOUND);
        C.is("denied", x.set(1, 37), TimeGaps.DENIED);
        C.is("just so", x.set(1, 36), 6);
        C.is("denied", x.set(0, 5), TimeGaps.DENIED);
        C.isText("list", Check.list(x), "start 0\na 4\nb 40\nc 0-40\n");
        C.is("off", x.set(3, 0), 2);
        C.are("log", Check.lastEntry(x), 3, 3, 2);
        C.is("off", x.set(3, 999), 0);
        C.is("gap", x.set(5, 1), TimeGaps.INVALID);
        C.is("gap", x.set(-1, 1), TimeGaps.INVALID);
        C.is("n", x.set(0, -1), TimeGaps.INVALID);
        C.is("n", x.set(0, 1000), TimeGaps.INVALID);
        C.is("value(11)", x.value(11), 5);
        C.is("value(12)", x.value(12), 5);
        // What is off is not denied, and denies nothing.
        x = Check.of("end 9;event a;gap start a least 5 off;");
        C.is("set", x.set(0, 500), 5);
        C.is("turn", x.turn(0), TimeGaps.DENIED);
        C.is("so already", x.set(0, 500), TimeGaps.NOT_FOUND);
    }

    private static void turn() {
        C.part("promise 10");
        TimeGaps x = Check.of(BASE);
        C.is("off", x.turn(1), 0);
        C.are("log", Check.entry(x, 0), 4, 1, 0);
        C.is("event(2, 0)", x.event(2, 0), 7);
        C.is("value(3)", x.value(3), 3);
        C.is("on", x.turn(1), 1);
        C.are("log", Check.entry(x, 1), 4, 1, 1);
        C.is("event(2, 0)", x.event(2, 0), 10);
        C.is("on", x.turn(3), 1);
        C.is("bound(3, 1)", x.bound(3, 1), 2);
        C.is("off", x.turn(3), 0);
        x.tell(3, 1, 1, 3);
        C.is("denied", x.turn(3), TimeGaps.DENIED);
        C.is("bound(3, 1)", x.bound(3, 1), 34);
        C.is("gap(3, 4)", x.gap(3, 4), 0);
        C.is("gap", x.turn(6), TimeGaps.INVALID);
        C.is("gap", x.turn(-1), TimeGaps.INVALID);
        x = Check.of("end 40;event a;event b;gap a b least 6;gap a b most 5 off;");
        C.is("denied", x.turn(1), TimeGaps.DENIED);
        unchanged(x, "end 40;event a;event b;gap a b least 6;gap a b most 5 off;", 0, 0);
        C.is("off", x.turn(0), 0);
        C.is("on", x.turn(1), 1);
        C.is("denied", x.turn(0), TimeGaps.DENIED);
        C.is("so that the ring is nought", x.set(0, 5), 6);
        C.is("not denied", x.turn(0), 1);
        C.is("undo", x.undo(), 3);
        C.is("undo", x.undo(), 2);
        C.is("undo", x.undo(), 1);
        C.is("value(3)", x.value(3), 0);
    }

    private static void pin() {
        C.part("promise 11");
        TimeGaps x = Check.of(BASE);
        C.is("too late", x.pin(1, 35), TimeGaps.DENIED);
        C.is("too early", x.pin(1, 3), TimeGaps.DENIED);
        C.is("latest", x.pin(1, 34), 1);
        C.are("log", Check.entry(x, 0), 5, 1, 34);
        C.isText("list", Check.list(x), "start 0\na 34!\nb 40\nc 0-40\n");
        C.is("pinned", x.pin(1, 34), TimeGaps.WRONG_STATE);
        C.is("pinned", x.pin(1, 3), TimeGaps.WRONG_STATE);
        C.is("START", x.pin(0, 0), TimeGaps.WRONG_STATE);
        C.is("START", x.pin(0, 41), TimeGaps.INVALID);
        C.is("pinned", x.pin(1, 41), TimeGaps.INVALID);
        C.is("pinned", x.pin(1, -1), TimeGaps.INVALID);
        C.is("event", x.pin(4, 1), TimeGaps.INVALID);
        C.is("event", x.pin(-1, 1), TimeGaps.INVALID);
        C.is("one time", x.pin(2, 40), 2);
        C.is("END", x.pin(3, 40), 3);
        C.are("log", Check.entry(x, 2), 5, 3, 40);
        C.is("value(11)", x.value(11), 3);
        C.is("undo", x.undo(), 2);
        C.is("event(3, 3)", x.event(3, 3), TimeGaps.NOT_FOUND);
        C.is("earliest", x.pin(3, 0), 3);
        C.is("event(3, 3)", x.event(3, 3), 0);
    }

    private static void unpin() {
        C.part("promise 12");
        TimeGaps x = Check.of(BASE + "pin a 5;pin c 0;");
        C.is("not pinned", x.unpin(2), TimeGaps.WRONG_STATE);
        C.is("START", x.unpin(0), TimeGaps.WRONG_STATE);
        C.is("event", x.unpin(4), TimeGaps.INVALID);
        C.is("event", x.unpin(-1), TimeGaps.INVALID);
        unchanged(x, BASE + "pin a 5;pin c 0;", 0, 0);
        C.is("unpin", x.unpin(1), 5);
        C.are("log", Check.entry(x, 0), 6, 1, 5);
        C.is("again", x.unpin(1), TimeGaps.WRONG_STATE);
        C.is("event(1, 1)", x.event(1, 1), 34);
        C.is("unpin", x.unpin(3), 0);
        C.are("log", Check.entry(x, 1), 6, 3, 0);
        C.is("value(4)", x.value(4), 0);
        C.is("undo", x.undo(), 1);
        C.is("event(3, 3)", x.event(3, 3), 0);
    }

    private static void end() {
        C.part("promise 13");
        TimeGaps x = Check.of(BASE);
        C.is("denied", x.end(9), TimeGaps.DENIED);
        C.is("just so", x.end(10), 40);
        C.are("log", Check.entry(x, 0), 7, 10, 40);
        C.isText("list", Check.list(x), "start 0\na 4\nb 10\nc 0-10\n");
        C.is("so already", x.end(10), TimeGaps.NOT_FOUND);
        C.is("more", x.end(999), 10);
        C.is("event(1, 1)", x.event(1, 1), 993);
        C.is("0", x.end(0), TimeGaps.INVALID);
        C.is("1000", x.end(1000), TimeGaps.INVALID);
        C.is("-1", x.end(-1), TimeGaps.INVALID);
        C.is("value(11)", x.value(11), 2);
        C.is("undo", x.undo(), 1);
        C.is("value(0)", x.value(0), 10);
        x = Check.of("end 40;event a;pin a 20;");
        C.is("below a pin", x.end(19), TimeGaps.DENIED);
        C.is("at a pin", x.end(20), 40);
        x = new TimeGaps();
        C.is("1", x.end(1), 100);
        C.is("so already", x.end(1), TimeGaps.NOT_FOUND);
    }

    private static void rename() {
        C.part("promise 14");
        TimeGaps x = Check.of(BASE);
        C.is("rename", Check.rename(x, 2, "xyzzy"), 5);
        C.is("tape", x.truncate(0), 0);
        C.are("log", Check.entry(x, 0), 9, 2, 5);
        C.is("letter", x.letter(2, 1), 25);
        C.is("rename", Check.rename(x, 2, "q"), 1);
        C.are("log", Check.entry(x, 1), 9, 2, 1);
        C.is("letter", x.letter(2, 1), TimeGaps.NOT_FOUND);
        C.is("the old name is free", Check.rename(x, 3, "b"), 1);
        C.isText("setup", Check.setup(x), "end 40;event a;event q;event b;gap start a least 4;"
                + "gap a q least 6;gap q b most 8;gap b a most 2 off;gap a q least 3;");
        C.is("START", Check.rename(x, 0, "w"), TimeGaps.WRONG_STATE);
        C.is("tape", x.truncate(0), 1);
        C.is("event", x.rename(4), TimeGaps.INVALID);
        C.is("event", x.rename(-1), TimeGaps.INVALID);
        C.is("tape", x.truncate(1), 0);
        String[] words = {"", "a", "b", "q", "start", "off", "abcdef", "x ", "X", "x1"};
        for (String word : words) {
            for (int event = 0; event < 3; event++) {
                Check.tape(x, word);
                C.is("rename to \"" + word + "\"", x.rename(event), TimeGaps.INVALID);
                C.is("tape", x.truncate(0), word.length());
                x.truncate(word.length());
            }
        }
        C.is("value(11)", x.value(11), 3);
        C.is("undo", x.undo(), 2);
        C.is("undo", x.undo(), 1);
        C.is("undo", x.undo(), 0);
        C.isText("setup", Check.setup(x), BASE);
        Check.tape(x, "q");
        C.is("undo leaves the tape", x.undo(), TimeGaps.INVALID);
        C.is("tape", x.truncate(0), 1);
    }

    private static void reverse() {
        C.part("promise 15");
        TimeGaps x = Check.of(BASE);
        C.is("denied by the START", x.reverse(0), TimeGaps.DENIED);
        C.is("denied", x.reverse(1), TimeGaps.DENIED);
        C.is("denied", x.reverse(4), TimeGaps.DENIED);
        C.is("off", x.reverse(3), 0);
        C.are("log", Check.entry(x, 0), 10, 3, 0);
        C.is("gap(3, 0)", x.gap(3, 0), 1);
        C.is("gap(3, 1)", x.gap(3, 1), 3);
        C.is("on", x.reverse(2), 1);
        C.are("log", Check.entry(x, 1), 10, 2, 1);
        C.is("gap(2, 0)", x.gap(2, 0), 3);
        C.is("bound(3, 2)", x.bound(3, 2), 8);
        C.is("bound(2, 3)", x.bound(2, 3), 30);
        C.is("gap", x.reverse(5), TimeGaps.INVALID);
        C.is("gap", x.reverse(-1), TimeGaps.INVALID);
        C.is("value(11)", x.value(11), 2);
        // Its own step does not count when it is turned round.
        x = Check.of("end 40;event a;event b;gap a b least 6;");
        C.is("alone", x.reverse(0), 1);
        C.isText("list", Check.list(x), "start 0\na 6-40\nb 0-34\n");
        C.is("undo", x.undo(), 0);
        C.isText("list", Check.list(x), "start 0\na 0-34\nb 6-40\n");
        x.tell(1, 2, 1, 1);
        C.is("denied", x.reverse(0), TimeGaps.DENIED);
        x.turn(1);
        C.is("not denied by one that is off", x.reverse(0), 1);
        x = Check.of("end 40;event a;event b;gap a b least 6;gap b a most 5;");
        C.is("denied", x.reverse(0), TimeGaps.DENIED);
        x.set(1, 6);
        C.is("a ring of nought", x.reverse(0), 1);
        C.is("play(1, 2)", x.play(1, 2), 0);
        C.is("a most", x.reverse(1), 1);
        C.is("bound(1, 2)", x.bound(1, 2), -6);
        C.is("bound(2, 1)", x.bound(2, 1), 40);
    }

    private static void tighten() {
        C.part("promise 16");
        TimeGaps x = Check.of(BASE);
        C.is("tighten", x.tighten(), 1);
        C.are("log", Check.entry(x, 0), 11, 1, 100);
        C.isText("setup", Check.setup(x), "end 40;event a;event b;event c;gap start a least 4;gap a b least 6;"
                + "gap b c most 8;gap c a most 2 off;gap a b least 6;");
        C.is("value(6)", x.value(6), 4);
        C.is("none", x.tighten(), TimeGaps.NOT_FOUND);
        C.is("value(11)", x.value(11), 1);
        C.is("value(12)", x.value(12), 1);
        C.is("undo", x.undo(), 0);
        C.isText("setup", Check.setup(x), BASE);
        x = Check.of("end 40;event a;event b;gap a b most 999;gap b a most 50;gap start b least 0;gap a b least 5;"
                + "gap start a most 30;");
        // "b a most" would become -5 and stays; "start b least" follows "a b least".
        C.is("tighten", x.tighten(), 2);
        C.are("log", Check.entry(x, 0), 11, 2, 65);
        C.isText("setup", Check.setup(x), "end 40;event a;event b;gap a b most 40;gap b a most 50;"
                + "gap start b least 5;gap a b least 5;gap start a most 30;");
        C.is("none without gaps", new TimeGaps().tighten(), TimeGaps.NOT_FOUND);
    }

    private static void tightenBelowNought() {
        C.part("promise 16, below nought");
        // b is behind a by 5 at least: "a at most 7 behind b" could only become -5,
        // "c at least 0 behind b" with c ahead by 3 or less could only become -3.
        TimeGaps x = Check.of("end 40;event a;event b;event c;gap a b least 5;gap b a most 7;gap c b most 3;"
                + "gap b c least 0 off;gap c b most 9;");
        C.is("bound(2, 1)", x.bound(2, 1), -5);
        C.is("tighten", x.tighten(), 1);
        C.is("gap(1, 3)", x.gap(1, 3), 7);
        C.is("gap(1, 7)", x.gap(1, 7), 12);
        C.is("gap(3, 3)", x.gap(3, 3), 0);
        C.is("gap(4, 3)", x.gap(4, 3), 3);
        x.drop(4);
        C.is("below nought alone", x.tighten(), TimeGaps.NOT_FOUND);
        // Just 0 is no number below nought.
        x = Check.of("end 40;event a;event b;gap a b least 0;gap b a most 7;");
        C.is("to nought", x.tighten(), 1);
        C.is("gap(1, 3)", x.gap(1, 3), 0);
    }

    private static void thin() {
        C.part("promise 17");
        TimeGaps x = Check.of(BASE);
        C.is("thin", x.thin(), 1);
        C.are("log", Check.entry(x, 0), 12, 1, 4);
        C.isText("setup", Check.setup(x), "end 40;event a;event b;event c;gap start a least 4;gap a b least 6;"
                + "gap b c most 8;gap c a most 2 off;");
        C.is("none", x.thin(), TimeGaps.NOT_FOUND);
        C.is("value(11)", x.value(11), 1);
        C.is("value(12)", x.value(12), 1);
        C.is("undo", x.undo(), 0);
        C.isText("setup", Check.setup(x), BASE);
        C.is("none without gaps", new TimeGaps().thin(), TimeGaps.NOT_FOUND);
    }

    private static void thinOneOfTwo() {
        C.part("promise 17, one of several");
        // Each of two alike is needless beside the other, but not alone.
        TimeGaps x = Check.of("end 40;event a;event b;gap a b least 6;gap a b most 50 off;gap a b least 6;"
                + "gap a b most 40;gap a b least 6;");
        C.is("value(7)", x.value(7), 0);
        C.is("thin", x.thin(), 3);
        C.isText("setup", Check.setup(x), "end 40;event a;event b;gap a b most 50 off;gap a b least 6;");
        C.are("log", Check.entry(x, 0), 12, 3, 2);
        // A ring of nought holds a, b and c together; two of the ways round go.
        x = Check.of("end 40;event a;event b;event c;gap a b most 0;gap b c most 0;gap c a most 0;"
                + "gap b a most 0;gap c b most 0;gap a c most 0;");
        C.is("thin", x.thin(), 3);
        C.isText("setup", Check.setup(x), "end 40;event a;event b;event c;gap b a most 0;gap c b most 0;"
                + "gap a c most 0;");
        // Tight by a pin, thus needless.
        x = Check.of("end 40;event a;gap start a least 7;gap start a most 9;pin a 7;");
        C.is("thin", x.thin(), 2);
        C.is("value(2)", x.value(2), 0);
    }

    private static void pinAll() {
        C.part("promise 18");
        TimeGaps x = Check.of(BASE + "pin c 7;");
        C.is("pinAll", x.pinAll(), 2);
        C.are("log", Check.entry(x, 0), 13, 2, 3);
        C.isText("list", Check.list(x), "start 0\na 4!\nb 10!\nc 7!\n");
        C.is("value(8)", x.value(8), 4);
        C.is("all are pinned", x.pinAll(), TimeGaps.NOT_FOUND);
        C.is("value(11)", x.value(11), 1);
        C.is("undo", x.undo(), 0);
        C.is("value(4)", x.value(4), 1);
        C.is("START alone", new TimeGaps().pinAll(), TimeGaps.NOT_FOUND);
    }
}
