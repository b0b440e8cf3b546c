/** All calls with ten events and 24 gaps, and with what dropped gaps and undone events have left behind. */
public final class FullTest {
    private static final Check C = new Check("FullTest");

    public static void main(String[] args) {
        full();
        allSteps();
        leftBehind();
        C.finish();
    }

    /** Events a to i, each 5 behind the one before; from 9 on, gaps alike and turned off in turn. */
    private static String setup() {
        StringBuilder setup = new StringBuilder("end 60;");
        for (char name = 'a'; name < 'j'; name++) {
            setup.append("event ").append(name).append(';');
        }
        setup.append("gap start a least 5;");
        for (char name = 'a'; name < 'i'; name++) {
            setup.append("gap ").append(name).append(' ').append((char) (name + 1)).append(" least 5;");
        }
        for (int gap = 9; gap < 24; gap++) {
            setup.append("gap h i most 50").append(gap % 2 == 0 ? ";" : " off;");
        }
        return setup.toString();
    }

    /** Read from two objects, as one is good for 512 calls. */
    private static String setupText() {
        StringBuilder text = new StringBuilder();
        TimeGaps first = Check.of(setup());
        TimeGaps second = Check.of(setup());
        int length = first.setupLength();
        for (int i = 0; i < length; i++) {
            text.append((char) (i < 400 ? first : second).setupByte(i));
        }
        return text.toString();
    }

    private static void full() {
        C.part("full");
        TimeGaps x = Check.of(setup());
        C.isText("setup", setupText(), setup());
        int[] values = {60, 10, 24, 16, 0, 34, 9, 9, 1, 45, 135, 0, 0};
        for (int what = 0; what < values.length; what++) {
            C.is("value(" + what + ")", x.value(what), values[what]);
        }
        C.isText("list", Check.list(x), "start 0\na 5-20\nb 10-25\nc 15-30\nd 20-35\ne 25-40\nf 30-45\ng 35-50\n"
                + "h 40-55\ni 45-60\n");
        C.isReal("tightShare", x.tightShare(), 9f / 16f);
        C.isReal("meanRoom", x.meanRoom(), 13.5);
        C.is("event(9, 4)", x.event(9, 4), 8);
        C.is("needs(9)", x.needs(9), 1);
        C.is("needs(8)", x.needs(8), 2);
        C.is("needless", x.needless(), 10);
        C.is("direct(8, 9)", x.direct(8, 9), TimeGaps.NOT_FOUND);
        C.is("direct(9, 8)", x.direct(9, 8), 8);
        C.is("culprit", x.culprit(1, 9, 0, 39), 1);
        C.is("culprit", x.culprit(9, 0, 0, 999), TimeGaps.NOT_FOUND);
        C.is("culprit", x.culprit(0, 1, 1, 61), TimeGaps.NOT_FOUND);
        C.is("slowest", x.slowest(), 4);
        C.is("pairs(1)", x.pairs(1), 45);
        C.is("ordered(9)", x.ordered(9), 9);
        C.is("ordered(10)", x.ordered(10), TimeGaps.NOT_FOUND);
        C.is("lastly(9)", x.lastly(9), 9);
        C.is("lastly(10)", x.lastly(10), TimeGaps.NOT_FOUND);
        C.is("widest", x.widest(), 9);
        C.is("freest", x.freest(), 1);
        C.is("middle(9)", x.middle(9), 59);
        C.is("wayLength(9, 0)", x.wayLength(9, 0), 9);
        C.is("wayLength(0, 1)", x.wayLength(0, 1), 9);
        C.are("way(0, 1)", Check.way(x, 0, 1), 109, 8, 7, 6, 5, 4, 3, 2, 1);
        C.is("way(0, 1, 9)", x.way(0, 1, 9), TimeGaps.NOT_FOUND);
        C.is("ifTold", x.ifTold(8, 9, 0, 5, 0), 1);
        C.is("ifTold", x.ifTold(0, 1, 1, 20, 1), 9);
        C.is("ifTold", x.ifTold(0, 1, 1, 20, 2), 0);
        C.is("ifDropped", x.ifDropped(23, 0), 0);
        C.is("ifTurned", x.ifTurned(23, 2), 135);
        C.is("why", x.why(9, 0, 1, 0, 1), 45);
        C.is("why", x.why(0, 9, 0, 44, 0), 2);
        C.is("ring", x.ring(0, 9, 0, 44, 8), 0);
        C.is("ring", x.ring(0, 9, 0, 44, 9), TimeGaps.NOT_FOUND);
        C.is("tighten", x.tighten(), 7);
        C.is("gap(22, 3)", x.gap(22, 3), 20);
        C.is("thin", x.thin(), 7);
        C.is("value(2)", x.value(2), 17);
        C.is("value(3)", x.value(3), 9);
        C.is("pinAll", x.pinAll(), 9);
        C.is("value(5)", x.value(5), 45);
        C.is("value(8)", x.value(8), 10);
        C.is("undo", x.undo(), 2);
        C.is("undo", x.undo(), 1);
        C.is("drop", x.drop(23), 23);
        C.is("drop", x.drop(0), 22);
    }

    private static void allSteps() {
        C.part("all steps");
        TimeGaps x = Check.of(setup().replace(" off", ""));
        C.is("pinAll", x.pinAll(), 9);
        C.is("value(5)", x.value(5), 60);
        C.is("why", x.why(9, 1, 1, 0, 0), 2);
        C.is("why", x.why(9, 1, 1, 0, 1), 40);
        C.is("why", x.why(9, 1, 1, 0, 2), 409);
        C.is("why", x.why(0, 9, 1, 46, 0), 1);
        C.is("why", x.why(0, 9, 1, 46, 2), 309);
        C.are("way(1, 9)", Check.way(x, 1, 9), 0, 309);
        C.are("way(9, 1)", Check.way(x, 9, 1), 409, 301);
        C.are("way(0, 9)", Check.way(x, 0, 9), 309);
        C.is("value(7)", x.value(7), 0);
        C.is("thin", x.thin(), 24);
        C.isText("list", Check.list(x), "start 0\na 5!\nb 10!\nc 15!\nd 20!\ne 25!\nf 30!\ng 35!\n"
                + "h 40!\ni 45!\n");
    }

    private static void leftBehind() {
        C.part("left behind");
        TimeGaps x = Check.of("end 40;event a;event b;gap a b least 6;gap a b least 5;gap a b least 4;");
        x.drop(2);
        x.drop(0);
        C.is("value(3)", x.value(3), 1);
        C.is("value(6)", x.value(6), 1);
        C.is("value(7)", x.value(7), 1);
        C.is("event(1, 4)", x.event(1, 4), 1);
        C.is("needs(1)", x.needs(1), 1);
        C.is("needless", x.needless(), TimeGaps.NOT_FOUND);
        C.is("tighten", x.tighten(), TimeGaps.NOT_FOUND);
        C.is("slowest", x.slowest(), 0);
        C.is("culprit", x.culprit(1, 2, 0, 4), 0);
        C.is("direct(2, 1)", x.direct(2, 1), 0);
        C.is("drop", x.drop(0), 0);
        C.is("needs(1)", x.needs(1), 0);
        C.is("slowest", x.slowest(), TimeGaps.NOT_FOUND);
        C.is("event(1, 4)", x.event(1, 4), 0);
        Check.open(x, "c");
        x.pin(3, 5);
        x.undo();
        x.undo();
        C.is("value(4)", x.value(4), 0);
        C.is("value(8)", x.value(8), 1);
        C.is("value(9)", x.value(9), 0);
        C.is("value(10)", x.value(10), 80);
        C.is("pinAll", x.pinAll(), 2);
        C.is("pinAll", x.pinAll(), TimeGaps.NOT_FOUND);
        C.is("ifTold", x.ifTold(1, 2, 0, 9, 0), 0);
    }
}
