/** Promises 22 to 25: values, letters, and numbers of gaps and events. */
public final class NumbersTest {
    private static final Check C = new Check("NumbersTest");
    private static final String BASE = "end 40;event a;event b;event c;gap start a least 4;gap a b least 6;"
            + "gap b c most 8;gap c a most 2 off;gap a b least 3;";

    public static void main(String[] args) {
        value();
        valueOfPinned();
        valueOfNeeds();
        letter();
        gap();
        gapNeeded();
        event();
        C.finish();
    }

    private static void values(TimeGaps x, int... due) {
        for (int what = 0; what < due.length; what++) {
            C.is("value(" + what + ")", x.value(what), due[what]);
        }
    }

    private static void value() {
        C.part("promise 22");
        TimeGaps x = Check.of(BASE);
        values(x, 40, 4, 5, 4, 0, 10, 3, 3, 1, 10, 100, 0, 0);
        C.is("value(-1)", x.value(-1), TimeGaps.INVALID);
        C.is("value(13)", x.value(13), TimeGaps.INVALID);
        C.is("value(min)", x.value(Integer.MIN_VALUE), TimeGaps.INVALID);
        C.is("value(max)", x.value(Integer.MAX_VALUE), TimeGaps.INVALID);
        x.turn(1);
        // Without the gap of 6 that of 3 is tight and needed.
        values(x, 40, 4, 5, 3, 0, 9, 3, 3, 1, 7, 106, 1, 1);
        x.end(7);
        values(x, 7, 4, 5, 3, 0, 9, 2, 2, 3, 7, 7, 2, 2);
    }

    private static void valueOfPinned() {
        C.part("promise 22, pins");
        TimeGaps x = Check.of(BASE + "pin a 10;pin b 25;");
        // c is from 0 to 33; the gap of 4 from the START and both from a to b are loose.
        values(x, 40, 4, 5, 4, 2, 14, 1, 1, 3, 25, 33, 0, 0);
        x.unpin(2);
        values(x, 40, 4, 5, 4, 1, 12, 2, 2, 2, 16, 64, 1, 1);
        x.pinAll();
        values(x, 40, 4, 5, 4, 3, 16, 1, 0, 4, 16, 0, 2, 2);
    }

    private static void valueOfNeeds() {
        C.part("promise 22, tight and needed");
        TimeGaps x = Check.of("end 40;event a;event b;gap a b least 6;gap a b least 6;gap a b most 40;"
                + "gap start a most 34;gap start a most 33;");
        // Two alike are tight, none is needed; what END tells is tight, not needed.
        values(x, 40, 3, 5, 5, 0, 9, 4, 1, 1, 6, 67, 0, 0);
    }

    private static void letter() {
        C.part("promise 23");
        TimeGaps x = Check.of("end 9;event a;event xyzzy;event mno;");
        int[][] names = {{19, 20, 1, 18, 20}, {1}, {24, 25, 26, 26, 25}, {13, 14, 15}};
        for (int event = 0; event < names.length; event++) {
            for (int i = 0; i < 8; i++) {
                C.is("letter(" + event + ", " + i + ")", x.letter(event, i),
                        i < names[event].length ? names[event][i] : TimeGaps.NOT_FOUND);
            }
        }
        C.is("letter(2, max)", x.letter(2, Integer.MAX_VALUE), TimeGaps.NOT_FOUND);
        C.is("letter(2, -1)", x.letter(2, -1), TimeGaps.INVALID);
        C.is("letter(-1, 0)", x.letter(-1, 0), TimeGaps.INVALID);
        C.is("letter(4, 0)", x.letter(4, 0), TimeGaps.INVALID);
        C.is("letter(4, 9)", x.letter(4, 9), TimeGaps.INVALID);
        C.is("letter(max, 0)", x.letter(Integer.MAX_VALUE, 0), TimeGaps.INVALID);
    }

    private static void gaps(TimeGaps x, int gap, int... due) {
        for (int what = 0; what < due.length; what++) {
            C.is("gap(" + gap + ", " + what + ")", x.gap(gap, what), due[what]);
        }
        C.is("gap(" + gap + ", -1)", x.gap(gap, -1), TimeGaps.INVALID);
        C.is("gap(" + gap + ", 8)", x.gap(gap, 8), TimeGaps.INVALID);
    }

    private static void gap() {
        C.part("promise 24");
        TimeGaps x = Check.of(BASE);
        gaps(x, 0, 0, 1, 1, 4, 1, 1, 1, 0);
        gaps(x, 1, 1, 2, 1, 6, 1, 1, 1, 0);
        gaps(x, 2, 2, 3, 0, 8, 1, 1, 1, 0);
        gaps(x, 3, 3, 1, 0, 2, 0, 0, 0, 0);
        gaps(x, 4, 1, 2, 1, 3, 1, 0, 0, 3);
        C.is("gap(5, 0)", x.gap(5, 0), TimeGaps.INVALID);
        C.is("gap(-1, 0)", x.gap(-1, 0), TimeGaps.INVALID);
        C.is("gap(max, 0)", x.gap(Integer.MAX_VALUE, 0), TimeGaps.INVALID);
        x.set(2, 500);
        gaps(x, 2, 2, 3, 0, 500, 1, 0, 0, 470);
        x.set(2, 30);
        // The bound is 30 by the START as well.
        gaps(x, 2, 2, 3, 0, 30, 1, 1, 0, 0);
        x.set(2, 31);
        gaps(x, 2, 2, 3, 0, 31, 1, 0, 0, 1);
        x.turn(2);
        gaps(x, 2, 2, 3, 0, 31, 0, 0, 0, 0);
    }

    private static void gapNeeded() {
        C.part("promise 24, needed");
        // a to b by c as far as by itself: tight, not needed.
        TimeGaps x = Check.of("end 40;event a;event b;event c;gap a b most 5;gap a c most 2;gap c b most 3;");
        gaps(x, 0, 1, 2, 0, 5, 1, 1, 0, 0);
        gaps(x, 1, 1, 3, 0, 2, 1, 1, 1, 0);
        x.turn(2);
        gaps(x, 0, 1, 2, 0, 5, 1, 1, 1, 0);
        x.turn(2);
        // In a ring of nought the way back through the gap itself does not count.
        x = Check.of("end 40;event a;event b;gap a b most 5;gap a b least 5;");
        gaps(x, 0, 1, 2, 0, 5, 1, 1, 1, 0);
        gaps(x, 1, 1, 2, 1, 5, 1, 1, 1, 0);
        x.pin(1, 3);
        gaps(x, 0, 1, 2, 0, 5, 1, 1, 1, 0);
        x.pin(2, 8);
        gaps(x, 0, 1, 2, 0, 5, 1, 1, 0, 0);
    }

    private static void events(TimeGaps x, int event, int... due) {
        for (int what = 0; what < due.length; what++) {
            C.is("event(" + event + ", " + what + ")", x.event(event, what), due[what]);
        }
        C.is("event(" + event + ", -1)", x.event(event, -1), TimeGaps.INVALID);
        C.is("event(" + event + ", 5)", x.event(event, 5), TimeGaps.INVALID);
    }

    private static void event() {
        C.part("promise 25");
        TimeGaps x = Check.of(BASE);
        events(x, 0, 0, 0, 1, TimeGaps.NOT_FOUND, 1);
        events(x, 1, 4, 34, 31, TimeGaps.NOT_FOUND, 3);
        events(x, 2, 10, 40, 31, TimeGaps.NOT_FOUND, 3);
        events(x, 3, 0, 40, 41, TimeGaps.NOT_FOUND, 1);
        C.is("event(4, 0)", x.event(4, 0), TimeGaps.INVALID);
        C.is("event(-1, 0)", x.event(-1, 0), TimeGaps.INVALID);
        C.is("event(max, 0)", x.event(Integer.MAX_VALUE, 0), TimeGaps.INVALID);
        x.turn(3);
        // c is at most 2 ahead of a then, and a is not ahead of c by more than that.
        events(x, 3, 2, 40, 39, TimeGaps.NOT_FOUND, 2);
        x.pin(3, 20);
        events(x, 3, 20, 20, 1, 20, 2);
        events(x, 1, 4, 22, 19, TimeGaps.NOT_FOUND, 4);
        events(x, 2, 12, 40, 29, TimeGaps.NOT_FOUND, 3);
        x.unpin(3);
        x.pin(1, 4);
        x.end(10);
        events(x, 1, 4, 4, 1, 4, 4);
        x = Check.of("end 9;event a;pin a 0;");
        events(x, 1, 0, 0, 1, 0, 0);
    }
}
