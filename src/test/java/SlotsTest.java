/** Promises 19 to 21: slots and undo. */
public final class SlotsTest {
    private static final Check C = new Check("SlotsTest");
    private static final String BASE = "end 40;event a;event b;gap start a least 4;gap a b least 6;pin b 20;";

    public static void main(String[] args) {
        keep();
        restore();
        restoreIsAnOperation();
        undo();
        undoOfEach();
        undoOfTheLatestEight();
        undoLeaves();
        C.finish();
    }

    private static void keep() {
        C.part("promise 19");
        TimeGaps x = Check.of(BASE);
        C.is("keep", x.keep(-1), TimeGaps.INVALID);
        C.is("keep", x.keep(2), TimeGaps.INVALID);
        C.is("keep", x.keep(Integer.MAX_VALUE), TimeGaps.INVALID);
        C.is("keep", x.keep(0), 2);
        C.is("no operation", x.value(12), 0);
        C.is("no entry", x.value(11), 0);
        C.is("the other slot", x.restore(1), TimeGaps.NOT_FOUND);
        x.drop(0);
        C.is("keep in its place", x.keep(0), 1);
        x.drop(0);
        C.is("keep", x.keep(1), 0);
        C.is("restore", x.restore(0), 1);
        C.is("restore", x.restore(1), 0);
    }

    private static void restore() {
        C.part("promise 20");
        TimeGaps x = Check.of(BASE);
        C.is("empty", x.restore(0), TimeGaps.NOT_FOUND);
        C.is("empty", x.restore(1), TimeGaps.NOT_FOUND);
        C.is("slot", x.restore(-1), TimeGaps.INVALID);
        C.is("slot", x.restore(2), TimeGaps.INVALID);
        x.set(0, 5);
        x.keep(1);
        Check.open(x, "c");
        Check.rename(x, 1, "q");
        x.unpin(2);
        x.end(50);
        x.turn(0);
        x.reverse(0);
        x.tell(1, 2, 1, 999);
        x.drop(1);
        C.is("value(11)", x.value(11), 9);
        C.is("restore", x.restore(1), 2);
        C.isText("setup", Check.setup(x), "end 40;event a;event b;gap start a least 5;gap a b least 6;pin b 20;");
        C.isText("list", Check.list(x), "start 0\na 5-14\nb 20!\n");
        C.is("the log, too", x.value(11), 1);
        C.are("log", Check.entry(x, 0), 3, 0, 4);
        C.is("way(2, 1, 0)", x.way(2, 1, 0), 1);
        x.drop(0);
        C.is("the slot keeps it", x.restore(1), 2);
        C.is("gap(0, 3)", x.gap(0, 3), 5);
        C.is("the other slot", x.restore(0), TimeGaps.NOT_FOUND);
    }

    private static void restoreIsAnOperation() {
        C.part("promise 20, an operation");
        TimeGaps x = Check.of(BASE);
        x.keep(0);
        x.drop(0);
        x.end(90);
        C.is("restore", x.restore(0), 2);
        C.is("value(12)", x.value(12), 3);
        C.is("value(11)", x.value(11), 0);
        C.is("undo", x.undo(), 2);
        C.isText("setup", Check.setup(x), "end 90;event a;event b;gap a b least 6;pin b 20;");
        C.is("value(11)", x.value(11), 2);
        C.are("log", Check.entry(x, 1), 7, 90, 40);
        C.is("undo", x.undo(), 1);
        C.is("value(0)", x.value(0), 40);
        C.is("restore again", x.restore(0), 2);
        C.is("undo", x.undo(), 1);
        C.is("undo", x.undo(), 0);
        C.isText("setup", Check.setup(x), BASE);
        C.is("an empty slot is no operation", x.restore(1), TimeGaps.NOT_FOUND);
        C.is("value(12)", x.value(12), 0);
    }

    private static void undo() {
        C.part("promise 21");
        TimeGaps x = Check.of(BASE);
        C.is("none", x.undo(), TimeGaps.INVALID);
        x.drop(0);
        C.is("undo", x.undo(), 0);
        C.is("none", x.undo(), TimeGaps.INVALID);
        C.isText("setup", Check.setup(x), BASE);
        C.is("no entry", x.value(11), 0);
        // What was undone does not count any more; what comes then counts anew.
        x.drop(0);
        x.end(30);
        x.undo();
        x.end(35);
        C.is("undo", x.undo(), 1);
        C.is("value(0)", x.value(0), 40);
        C.is("undo", x.undo(), 0);
        C.is("value(2)", x.value(2), 2);
        // A denied tell() counts, other refused calls do not.
        C.is("tell", x.tell(1, 2, 1, 999), TimeGaps.DENIED);
        C.is("value(12)", x.value(12), 1);
        x.set(1, 999);
        x.set(1, 6);
        x.pin(1, 30);
        x.pin(2, 20);
        x.end(1);
        x.reverse(0);
        x.thin();
        x.tighten();
        x.unpin(1);
        x.open();
        x.rename(1);
        x.drop(7);
        x.turn(-1);
        C.is("value(12)", x.value(12), 1);
        C.is("value(11)", x.value(11), 1);
        C.is("undo", x.undo(), 0);
        C.is("value(11)", x.value(11), 0);
    }

    private static void undoOfEach() {
        C.part("promise 21, each operation");
        for (int i = 0; i < 8; i++) {
            TimeGaps x = afterOperations(i + 1);
            TimeGaps before = afterOperations(i);
            C.is("value(12)", x.value(12), i + 1);
            C.is("undo", x.undo(), i);
            C.isText("setup " + i, Check.setup(x), Check.setup(before));
            C.isText("list " + i, Check.list(x), Check.list(before));
            C.is("value(11)", x.value(11), before.value(11));
        }
        TimeGaps x = afterOperations(8);
        for (int i = 7; i >= 0; i--) {
            C.is("undo", x.undo(), i);
        }
        C.isText("setup", Check.setup(x), Check.setup(afterOperations(0)));
        C.is("value(11)", x.value(11), 0);
    }

    private static TimeGaps afterOperations(int count) {
        TimeGaps x = Check.of("end 40;event a;event b;gap start a least 4;gap a b least 6;gap start b least 9;");
        for (int i = 0; i < count; i++) {
            switch (i) {
                case 0:
                    Check.open(x, "c");
                    break;
                case 1:
                    Check.rename(x, 3, "dd");
                    break;
                case 2:
                    x.tighten();
                    break;
                case 3:
                    x.thin();
                    break;
                case 4:
                    x.reverse(1);
                    break;
                case 5:
                    x.pin(3, 3);
                    break;
                case 6:
                    x.pinAll();
                    break;
                default:
                    x.unpin(2);
                    break;
            }
        }
        return x;
    }

    private static void undoOfTheLatestEight() {
        C.part("promise 21, eight");
        TimeGaps x = new TimeGaps();
        for (int end = 1; end <= 20; end++) {
            x.end(end);
            C.is("value(12)", x.value(12), Math.min(end, 8));
        }
        C.is("undo", x.undo(), 7);
        C.is("undo", x.undo(), 6);
        C.is("value(0)", x.value(0), 18);
        x.end(50);
        x.end(51);
        C.is("value(12)", x.value(12), 8);
        x.end(52);
        C.is("value(12)", x.value(12), 8);
        int[] ends = {51, 50, 18, 17, 16, 15, 14, 13};
        for (int i = 0; i < 8; i++) {
            C.is("undo", x.undo(), 7 - i);
            C.is("value(0)", x.value(0), ends[i]);
        }
        C.is("none", x.undo(), TimeGaps.INVALID);
        C.is("value(0)", x.value(0), 13);
        C.is("value(11)", x.value(11), 13);
    }

    private static void undoLeaves() {
        C.part("promise 21, what it leaves");
        TimeGaps x = Check.of(BASE);
        Check.load(x, "end 5;;");
        x.keep(1);
        Check.open(x, "c");
        x.keep(0);
        Check.tape(x, "word");
        C.is("undo", x.undo(), 0);
        C.is("tape", x.truncate(0), 4);
        C.is("errorPosition", x.errorPosition(), 6);
        C.is("restore(0)", x.restore(0), 2);
        C.is("value(1)", x.value(1), 4);
        C.is("undo", x.undo(), 0);
        C.is("restore(1)", x.restore(1), 2);
        C.is("value(1)", x.value(1), 3);
    }
}
