/** Promises 52 to 54: the log and the rates. */
public final class LogTest {
    private static final Check C = new Check("LogTest");
    private static final String BASE = "end 40;event a;event b;event c;gap start a least 4;gap a b least 6;"
            + "gap b c most 8;gap c a most 2 off;gap a b least 3;";

    public static void main(String[] args) {
        log();
        logOfForty();
        logOfEach();
        tightShare();
        meanRoom();
        C.finish();
    }

    private static void log() {
        C.part("promise 52");
        TimeGaps x = Check.of(BASE);
        C.is("empty", x.log(0, 0), TimeGaps.NOT_FOUND);
        x.end(50);
        x.set(0, 9);
        C.are("log 0", Check.entry(x, 0), 7, 50, 40);
        C.are("log 1", Check.entry(x, 1), 3, 0, 4);
        C.is("log(2, 0)", x.log(2, 0), TimeGaps.NOT_FOUND);
        C.is("log(max, 0)", x.log(Integer.MAX_VALUE, 0), TimeGaps.NOT_FOUND);
        C.is("log(-1, 0)", x.log(-1, 0), TimeGaps.INVALID);
        C.is("log(min, 0)", x.log(Integer.MIN_VALUE, 0), TimeGaps.INVALID);
        C.is("log(0, -1)", x.log(0, -1), TimeGaps.INVALID);
        C.is("log(0, 3)", x.log(0, 3), TimeGaps.INVALID);
        C.is("log(9, 3)", x.log(9, 3), TimeGaps.INVALID);
    }

    private static void logOfForty() {
        C.part("promise 52, forty");
        TimeGaps x = new TimeGaps();
        for (int i = 1; i <= 40; i++) {
            x.end(i);
            C.is("value(11)", x.value(11), i);
        }
        C.are("oldest", Check.entry(x, 0), 7, 1, 100);
        C.are("latest", Check.entry(x, 39), 7, 40, 39);
        C.is("log(40, 0)", x.log(40, 0), TimeGaps.NOT_FOUND);
        x.end(41);
        C.is("value(11)", x.value(11), 40);
        C.are("oldest", Check.entry(x, 0), 7, 2, 1);
        C.are("latest", Check.entry(x, 39), 7, 41, 40);
        C.is("log(40, 0)", x.log(40, 0), TimeGaps.NOT_FOUND);
        for (int i = 42; i <= 95; i++) {
            x.end(i);
        }
        x.keep(0);
        C.are("oldest", Check.entry(x, 0), 7, 56, 55);
        C.are("middle", Check.entry(x, 20), 7, 76, 75);
        C.are("latest", Check.entry(x, 39), 7, 95, 94);
        x.undo();
        C.are("oldest", Check.entry(x, 0), 7, 55, 54);
        C.are("latest", Check.entry(x, 39), 7, 94, 93);
        x.end(7);
        x.end(8);
        C.are("latest", Check.entry(x, 39), 7, 8, 7);
        x.restore(0);
        C.is("value(11)", x.value(11), 40);
        C.are("oldest", Check.entry(x, 0), 7, 56, 55);
        C.are("latest", Check.entry(x, 39), 7, 95, 94);
    }

    private static void logOfEach() {
        C.part("section 4");
        TimeGaps x = Check.of(BASE);
        Check.open(x, "dd");
        C.are("0", Check.lastEntry(x), 0, 4, 5);
        x.tell(0, 4, 1, 7);
        C.are("1", Check.lastEntry(x), 1, 5, 7);
        x.set(5, 8);
        C.are("3", Check.lastEntry(x), 3, 5, 7);
        x.turn(5);
        C.are("4", Check.lastEntry(x), 4, 5, 0);
        x.turn(5);
        C.are("4", Check.lastEntry(x), 4, 5, 1);
        x.pin(4, 30);
        C.are("5", Check.lastEntry(x), 5, 4, 30);
        x.unpin(4);
        C.are("6", Check.lastEntry(x), 6, 4, 30);
        x.end(41);
        C.are("7", Check.lastEntry(x), 7, 41, 40);
        x.tell(0, 4, 0, 7);
        C.are("8", Check.lastEntry(x), 8, 0, 7);
        x.tell(0, 4, 1, 42);
        C.are("8", Check.lastEntry(x), 8, 1, 42);
        Check.rename(x, 4, "eee");
        C.are("9", Check.lastEntry(x), 9, 4, 3);
        x.reverse(2);
        C.are("10", Check.lastEntry(x), 10, 2, 1);
        x.reverse(3);
        C.are("10", Check.lastEntry(x), 10, 3, 0);
        x.tighten();
        C.are("11", Check.lastEntry(x), 11, 1, 31 + 31 + 39 + 33);
        x.thin();
        C.are("12", Check.lastEntry(x), 12, 1, 5);
        x.drop(0);
        C.are("2", Check.lastEntry(x), 2, 0, 4);
        x.pin(1, 5);
        x.pinAll();
        C.are("13", Check.lastEntry(x), 13, 3, 4);
        C.is("value(11)", x.value(11), 18);
    }

    private static void tightShare() {
        C.part("promise 53");
        TimeGaps x = Check.of(BASE);
        C.isReal("tightShare", x.tightShare(), 0.75f);
        x.set(2, 9);
        x.set(2, 500);
        C.isReal("tightShare", x.tightShare(), 0.5f);
        x.turn(1);
        C.isReal("tightShare", x.tightShare(), 2f / 3f);
        x.turn(0);
        x.set(4, 0);
        x.pin(1, 3);
        x.pin(2, 9);
        C.isReal("none is tight", x.tightShare(), 0f);
        x.turn(2);
        x.turn(4);
        C.isReal("none is on", x.tightShare(), 0f);
        C.isReal("without gaps", new TimeGaps().tightShare(), 0f);
        C.isReal("all", Check.of("end 9;event a;gap start a least 3;").tightShare(), 1f);
        x = Check.of("end 9;event a;gap start a least 3;gap start a most 10;gap start a most 10;");
        C.isReal("a third", x.tightShare(), 1f / 3f);
    }

    private static void meanRoom() {
        C.part("promise 54");
        TimeGaps x = Check.of(BASE);
        C.isReal("meanRoom", x.meanRoom(), 25.0);
        x.pin(3, 0);
        C.isReal("meanRoom", x.meanRoom(), 15.0);
        x.end(39);
        C.isReal("meanRoom", x.meanRoom(), 14.5);
        C.isReal("START alone", new TimeGaps().meanRoom(), 0.0);
        x = Check.of("end 100;event a;event b;");
        C.isReal("meanRoom", x.meanRoom(), 200.0 / 3.0);
    }
}
