/** Promises 46 to 51: what would be. */
public final class WouldBeTest {
    private static final Check C = new Check("WouldBeTest");
    private static final String BASE = "end 40;event a;event b;event c;gap start a least 4;gap a b least 6;"
            + "gap b c most 8;gap c a most 2 off;gap a b least 3;";
    private static final int NO = TimeGaps.INVALID;
    private static final int DENIED = TimeGaps.DENIED;

    public static void main(String[] args) {
        ifTold();
        ifToldWrong();
        ifDropped();
        ifTurned();
        ifPinned();
        leastEnd();
        slowest();
        C.finish();
    }

    private static void told(TimeGaps x, int one, int other, int kind, int n, int... due) {
        for (int what = 0; what < 3; what++) {
            C.is("ifTold(" + one + ", " + other + ", " + kind + ", " + n + ", " + what + ")",
                    x.ifTold(one, other, kind, n, what), due[what]);
        }
    }

    private static void same(TimeGaps x, String setup) {
        C.isText("setup", Check.setup(x), setup);
        C.is("no entry", x.value(11), 0);
        C.is("no operation", x.value(12), 0);
        C.is("bound(0, 1)", x.bound(0, 1), 34);
        C.is("value(10)", x.value(10), 100);
    }

    private static void ifTold() {
        C.part("promise 46");
        TimeGaps x = Check.of(BASE);
        told(x, 3, 2, 1, 10, 3, 1, 90);
        told(x, 0, 1, 1, 10, 4, 2, 88);
        told(x, 1, 2, 0, 36, 0, 0, 100);
        told(x, 1, 2, 0, 6, 2, 0, 100);
        told(x, 1, 2, 0, 5, DENIED, DENIED, DENIED);
        told(x, 0, 2, 1, 41, DENIED, DENIED, DENIED);
        told(x, 0, 2, 1, 40, 2, 1, 30 + 40);
        same(x, BASE);
        for (int i = 5; i < 24; i++) {
            x.tell(0, 3, 0, 40);
        }
        C.is("value(2)", x.value(2), 24);
        told(x, 3, 2, 1, 10, 3, 1, 90);
    }

    private static void ifToldWrong() {
        C.part("promise 46, wrong inputs");
        TimeGaps x = Check.of(BASE);
        C.is("one", x.ifTold(-1, 2, 0, 9, 0), NO);
        C.is("one", x.ifTold(4, 2, 0, 9, 0), NO);
        C.is("other", x.ifTold(1, -1, 0, 9, 0), NO);
        C.is("other", x.ifTold(1, 4, 0, 9, 0), NO);
        C.is("twice", x.ifTold(1, 1, 0, 9, 0), NO);
        C.is("kind", x.ifTold(1, 2, -1, 9, 0), NO);
        C.is("kind", x.ifTold(1, 2, 2, 9, 0), NO);
        C.is("n", x.ifTold(1, 2, 0, -1, 0), NO);
        C.is("n", x.ifTold(1, 2, 0, 1000, 0), NO);
        C.is("what", x.ifTold(1, 2, 0, 9, -1), NO);
        C.is("what", x.ifTold(1, 2, 0, 9, 3), NO);
        C.is("what before DENIED", x.ifTold(1, 2, 0, 5, 3), NO);
    }

    private static void ifDropped() {
        C.part("promise 47");
        TimeGaps x = Check.of(BASE);
        int[][] due = {{4, 2, 108}, {4, 2, 106}, {1, 0, 100}, {0, 0, 100}, {0, 0, 100}};
        for (int gap = 0; gap < due.length; gap++) {
            for (int what = 0; what < 3; what++) {
                C.is("ifDropped(" + gap + ", " + what + ")", x.ifDropped(gap, what), due[gap][what]);
            }
        }
        C.is("gap", x.ifDropped(5, 0), NO);
        C.is("gap", x.ifDropped(-1, 0), NO);
        C.is("what", x.ifDropped(0, -1), NO);
        C.is("what", x.ifDropped(0, 3), NO);
        same(x, BASE);
    }

    private static void ifTurned() {
        C.part("promise 48");
        TimeGaps x = Check.of(BASE);
        int[][] due = {{4, 2, 108}, {4, 2, 106}, {1, 0, 100}, {3, 1, 98}, {0, 0, 100}};
        for (int gap = 0; gap < due.length; gap++) {
            for (int what = 0; what < 3; what++) {
                C.is("ifTurned(" + gap + ", " + what + ")", x.ifTurned(gap, what), due[gap][what]);
            }
        }
        C.is("gap", x.ifTurned(5, 0), NO);
        C.is("gap", x.ifTurned(-1, 0), NO);
        C.is("what", x.ifTurned(0, -1), NO);
        C.is("what", x.ifTurned(0, 3), NO);
        same(x, BASE);
        x = Check.of("end 40;event a;event b;gap a b least 6;gap a b most 5 off;gap a b most 6 off;");
        for (int what = 0; what < 3; what++) {
            C.is("denied", x.ifTurned(1, what), DENIED);
        }
        C.is("what before DENIED", x.ifTurned(1, 3), NO);
        C.is("not denied", x.ifTurned(2, 2), 68);
        C.is("off", x.value(3), 1);
    }

    private static void ifPinned() {
        C.part("promise 49");
        TimeGaps x = Check.of(BASE);
        int[] due = {6, 2, 64};
        for (int what = 0; what < 3; what++) {
            C.is("ifPinned(1, 10, " + what + ")", x.ifPinned(1, 10, what), due[what]);
            C.is("too early", x.ifPinned(1, 3, what), DENIED);
            C.is("too late", x.ifPinned(1, 35, what), DENIED);
            C.is("START", x.ifPinned(0, 0, what), TimeGaps.WRONG_STATE);
        }
        C.is("earliest", x.ifPinned(1, 4, 2), 30 + 40);
        C.is("latest", x.ifPinned(1, 34, 2), 40);
        C.is("event", x.ifPinned(4, 0, 0), NO);
        C.is("event", x.ifPinned(-1, 0, 0), NO);
        C.is("time", x.ifPinned(1, -1, 0), NO);
        C.is("time", x.ifPinned(1, 41, 0), NO);
        C.is("what", x.ifPinned(1, 10, -1), NO);
        C.is("what", x.ifPinned(1, 10, 3), NO);
        C.is("what before WRONG_STATE", x.ifPinned(0, 0, 3), NO);
        C.is("time before WRONG_STATE", x.ifPinned(0, 41, 0), NO);
        same(x, BASE);
        x.pin(1, 10);
        C.is("pinned", x.ifPinned(1, 10, 0), TimeGaps.WRONG_STATE);
        C.is("pinned before DENIED", x.ifPinned(1, 3, 0), TimeGaps.WRONG_STATE);
        C.is("another one", x.ifPinned(3, 40, 0), 5);
    }

    private static void leastEnd() {
        C.part("promise 50");
        TimeGaps x = Check.of(BASE);
        C.is("leastEnd", x.leastEnd(), 10);
        C.is("end", x.end(10), 40);
        C.is("leastEnd", x.leastEnd(), 10);
        C.is("START alone", new TimeGaps().leastEnd(), 1);
        x = Check.of("end 40;event a;");
        C.is("not 0", x.leastEnd(), 1);
        x.pin(1, 0);
        C.is("not 0", x.leastEnd(), 1);
        x = Check.of("end 40;event a;event b;gap a b most 9;pin a 33;");
        C.is("by a pin", x.leastEnd(), 33);
        x.pin(2, 40);
        C.is("by a pin", x.leastEnd(), 40);
        C.is("by the bounds", Check.of("end 999;event a;gap start a least 999;").leastEnd(), 999);
    }

    private static void slowest() {
        C.part("promise 51");
        TimeGaps x = Check.of(BASE);
        C.is("slowest", x.slowest(), 0);
        x.set(0, 1);
        // Without the gap from the START 6 remain, without that of 6 there remain 4.
        C.is("slowest", x.slowest(), 1);
        x.turn(1);
        C.is("slowest", x.slowest(), 4);
        x.turn(4);
        C.is("slowest", x.slowest(), 0);
        x.turn(0);
        C.is("none makes it less", x.slowest(), 2);
        x.turn(2);
        C.is("none is on", x.slowest(), TimeGaps.NOT_FOUND);
        C.is("without gaps", new TimeGaps().slowest(), TimeGaps.NOT_FOUND);
        x = Check.of("end 40;event a;event b;gap start b least 5;gap start a least 5;gap a b most 9;");
        C.is("of several the smallest", x.slowest(), 0);
        x = Check.of("end 40;event a;event b;gap a b most 9 off;gap a b least 0;gap start a least 5;");
        C.is("slowest", x.slowest(), 2);
    }
}
