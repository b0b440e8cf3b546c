/** Promises 26 to 38: bounds, ways, and what follows from them. */
public final class BoundsTest {
    private static final Check C = new Check("BoundsTest");
    private static final String BASE = "end 40;event a;event b;event c;gap start a least 4;gap a b least 6;"
            + "gap b c most 8;gap c a most 2 off;gap a b least 3;";
    private static final int NO = TimeGaps.INVALID;

    public static void main(String[] args) {
        bound();
        way();
        wayWithFewestSteps();
        wayOfSmallestSteps();
        wayByEndsAndPins();
        wayLength();
        relation();
        play();
        pairs();
        direct();
        ordered();
        middle();
        lastly();
        can();
        widest();
        freest();
        C.finish();
    }

    private static void bound() {
        C.part("promise 26");
        TimeGaps x = Check.of(BASE);
        int[][] due = {{0, 34, 40, 40}, {-4, 0, 36, 36}, {-10, -6, 0, 8}, {0, 34, 40, 0}};
        for (int one = 0; one < 4; one++) {
            for (int other = 0; other < 4; other++) {
                C.is("bound(" + one + ", " + other + ")", x.bound(one, other), due[one][other]);
            }
        }
        C.is("bound(-1, 0)", x.bound(-1, 0), TimeGaps.NO_BOUND);
        C.is("bound(0, -1)", x.bound(0, -1), TimeGaps.NO_BOUND);
        C.is("bound(4, 0)", x.bound(4, 0), TimeGaps.NO_BOUND);
        C.is("bound(0, 4)", x.bound(0, 4), TimeGaps.NO_BOUND);
        C.is("bound(4, 4)", x.bound(4, 4), TimeGaps.NO_BOUND);
        C.is("bound(max, min)", x.bound(Integer.MAX_VALUE, Integer.MIN_VALUE), TimeGaps.NO_BOUND);
        x = Check.of("end 999;event a;event b;gap a b least 999;gap b a most 0 off;");
        C.is("bound(1, 2)", x.bound(1, 2), 999);
        C.is("bound(2, 1)", x.bound(2, 1), -999);
        C.is("bound(0, 1)", x.bound(0, 1), 0);
        // A long row: nine events behind one another.
        StringBuilder row = new StringBuilder("end 100;");
        for (char name = 'a'; name < 'j'; name++) {
            row.append("event ").append(name).append(';');
        }
        for (char name = 'a'; name < 'i'; name++) {
            row.append("gap ").append((char) (name + 1)).append(' ').append(name).append(" most 50 off;");
            row.append("gap ").append(name).append(' ').append((char) (name + 1)).append(" least 7;");
        }
        x = Check.of(row.toString());
        C.is("bound(9, 1)", x.bound(9, 1), -56);
        C.is("bound(0, 1)", x.bound(0, 1), 44);
        C.is("bound(9, 0)", x.bound(9, 0), -56);
        C.is("wayLength(9, 0)", x.wayLength(9, 0), 9);
        C.are("way(9, 0)", Check.way(x, 9, 0), 15, 13, 11, 9, 7, 5, 3, 1, 201);
    }

    private static void way() {
        C.part("promise 27");
        TimeGaps x = Check.of(BASE);
        C.are("way(0, 1)", Check.way(x, 0, 1), 102, 1);
        C.are("way(0, 2)", Check.way(x, 0, 2), 102);
        C.are("way(0, 3)", Check.way(x, 0, 3), 103);
        C.are("way(1, 0)", Check.way(x, 1, 0), 0);
        C.are("way(1, 2)", Check.way(x, 1, 2), 0, 102);
        C.are("way(1, 3)", Check.way(x, 1, 3), 0, 103);
        C.are("way(2, 0)", Check.way(x, 2, 0), 1, 0);
        C.are("way(2, 1)", Check.way(x, 2, 1), 1);
        C.are("way(2, 3)", Check.way(x, 2, 3), 2);
        C.are("way(3, 0)", Check.way(x, 3, 0), 203);
        C.are("way(3, 1)", Check.way(x, 3, 1), 203, 102, 1);
        C.are("way(3, 2)", Check.way(x, 3, 2), 203, 102);
        C.is("way(3, 1, 3)", x.way(3, 1, 3), TimeGaps.NOT_FOUND);
        C.is("way(3, 1, max)", x.way(3, 1, Integer.MAX_VALUE), TimeGaps.NOT_FOUND);
        C.is("way(3, 1, -1)", x.way(3, 1, -1), NO);
        C.is("way(3, 1, min)", x.way(3, 1, Integer.MIN_VALUE), NO);
        C.is("way(1, 1, 0)", x.way(1, 1, 0), NO);
        C.is("way(4, 1, 0)", x.way(4, 1, 0), NO);
        C.is("way(1, 4, 0)", x.way(1, 4, 0), NO);
        C.is("way(-1, 1, 0)", x.way(-1, 1, 0), NO);
        C.is("way(1, -1, 0)", x.way(1, -1, 0), NO);
        x.turn(3);
        C.are("way(3, 1)", Check.way(x, 3, 1), 3);
        C.are("way(2, 0)", Check.way(x, 2, 0), 1, 0);
        C.are("way(3, 0)", Check.way(x, 3, 0), 3, 0);
    }

    private static void wayWithFewestSteps() {
        C.part("promise 27, fewest steps");
        TimeGaps x = Check.of("end 90;event a;event b;event c;gap a b most 5;gap b c most 5;gap a c most 10;");
        C.are("way(1, 3)", Check.way(x, 1, 3), 2);
        x.set(2, 11);
        C.are("way(1, 3)", Check.way(x, 1, 3), 0, 1);
        x.set(2, 10);
        x.turn(2);
        C.are("way(1, 3)", Check.way(x, 1, 3), 0, 1);
        // A ring of nought is not gone round.
        x = Check.of("end 90;event a;event b;event c;gap a b most 0;gap b a most 0;gap b c most 4;gap a c most 4;");
        C.are("way(1, 3)", Check.way(x, 1, 3), 3);
        C.are("way(2, 3)", Check.way(x, 2, 3), 2);
        // Fewer steps, even by larger numbers.
        x = Check.of("end 8;event a;event b;gap start a most 3;gap a b most 5;");
        C.are("way(0, 2)", Check.way(x, 0, 2), 102);
        x.end(9);
        C.are("way(0, 2)", Check.way(x, 0, 2), 0, 1);
    }

    private static void wayOfSmallestSteps() {
        C.part("promise 27, smallest steps");
        String events = "end 90;event a;event b;event c;event d;";
        TimeGaps x = Check.of(events + "gap c d most 5;gap a c most 5;gap a b most 5;gap b d most 5;");
        C.are("way(1, 4)", Check.way(x, 1, 4), 1, 0);
        x = Check.of(events + "gap c d most 5;gap a b most 5;gap a c most 5;gap b d most 5;");
        C.are("way(1, 4)", Check.way(x, 1, 4), 1, 3);
        x = Check.of(events + "gap b d most 5;gap a b most 5;gap b d most 5;gap d b least 0 off;gap a b most 5;");
        C.are("way(1, 4)", Check.way(x, 1, 4), 1, 0);
        x.turn(0);
        C.are("way(1, 4)", Check.way(x, 1, 4), 1, 2);
        x.turn(1);
        C.are("way(1, 4)", Check.way(x, 1, 4), 4, 2);
        // The smaller first step counts, though the smaller second one is elsewhere.
        x = Check.of(events + "gap b d most 4;gap a c most 5;gap a b most 6;gap c d most 5;");
        C.are("way(1, 4)", Check.way(x, 1, 4), 1, 3);
        // A gap of the kind 1 goes from the other to the one.
        x = Check.of(events + "gap d a least 0;gap d b least 0;gap b a least 0;");
        C.are("way(1, 4)", Check.way(x, 1, 4), 0);
        C.are("way(2, 4)", Check.way(x, 2, 4), 1);
    }

    private static void wayByEndsAndPins() {
        C.part("promise 27, END and pins");
        TimeGaps x = Check.of("end 40;event a;event b;event c;gap start a most 40;gap b start most 0;"
                + "gap start c most 10;gap start c least 10;pin b 0;pin c 10;");
        C.are("a gap before END", Check.way(x, 0, 1), 0);
        C.are("by 0", Check.way(x, 1, 0), 201);
        C.are("a gap before 0", Check.way(x, 2, 0), 1);
        C.are("by a pin", Check.way(x, 0, 2), 302);
        C.are("a gap before a pin", Check.way(x, 0, 3), 2);
        C.are("a gap before a pin", Check.way(x, 3, 0), 3);
        C.are("a gap and a pin", Check.way(x, 3, 2), 3, 302);
        x.turn(1);
        C.are("by 0 before a pin", Check.way(x, 2, 0), 202);
        x.turn(2);
        x.turn(3);
        C.are("by pins", Check.way(x, 0, 3), 303);
        C.are("by pins", Check.way(x, 3, 0), 403);
        C.are("by two pins", Check.way(x, 3, 2), 403, 302);
        C.are("by two pins", Check.way(x, 2, 3), 202, 303);
        x.pin(1, 40);
        x.turn(0);
        C.are("END before a pin", Check.way(x, 0, 1), 101);
        C.are("by a pin", Check.way(x, 1, 0), 401);
    }

    private static void wayLength() {
        C.part("promise 28");
        TimeGaps x = Check.of(BASE);
        int[][] due = {{NO, 2, 1, 1}, {1, NO, 2, 2}, {2, 1, NO, 1}, {1, 3, 2, NO}};
        for (int one = 0; one < 4; one++) {
            for (int other = 0; other < 4; other++) {
                C.is("wayLength(" + one + ", " + other + ")", x.wayLength(one, other), due[one][other]);
            }
        }
        C.is("wayLength(4, 0)", x.wayLength(4, 0), NO);
        C.is("wayLength(0, 4)", x.wayLength(0, 4), NO);
        C.is("wayLength(-1, 0)", x.wayLength(-1, 0), NO);
        C.is("wayLength(0, -1)", x.wayLength(0, -1), NO);
    }

    private static void relation() {
        C.part("promise 29");
        TimeGaps x = Check.of(BASE);
        int[][] due = {{NO, 1, 1, 3}, {2, NO, 1, 5}, {2, 2, NO, 5}, {4, 5, 5, NO}};
        for (int one = 0; one < 4; one++) {
            for (int other = 0; other < 4; other++) {
                C.is("relation(" + one + ", " + other + ")", x.relation(one, other), due[one][other]);
            }
        }
        C.is("relation(4, 0)", x.relation(4, 0), NO);
        C.is("relation(0, 4)", x.relation(0, 4), NO);
        C.is("relation(-1, 0)", x.relation(-1, 0), NO);
        C.is("relation(0, -1)", x.relation(0, -1), NO);
        x = Check.of("end 40;event a;event b;event c;gap a b most 0;gap a b least 0;gap b c least 0;pin a 0;");
        C.is("the same", x.relation(1, 2), 0);
        C.is("the same", x.relation(2, 1), 0);
        C.is("the same as the START", x.relation(0, 1), 0);
        C.is("never behind", x.relation(2, 3), 3);
        C.is("never ahead", x.relation(3, 2), 4);
        x = Check.of("end 40;event a;event b;gap a b least 1;gap a b most 1;");
        C.is("always 1 ahead", x.relation(1, 2), 1);
        C.is("always 1 behind", x.relation(2, 1), 2);
    }

    private static void play() {
        C.part("promise 30");
        TimeGaps x = Check.of(BASE);
        C.is("play(0, 1)", x.play(0, 1), 30);
        C.is("play(1, 2)", x.play(1, 2), 30);
        C.is("play(2, 1)", x.play(2, 1), 30);
        C.is("play(2, 3)", x.play(2, 3), 48);
        C.is("play(3, 1)", x.play(3, 1), 70);
        C.is("play(1, 1)", x.play(1, 1), NO);
        C.is("play(4, 1)", x.play(4, 1), NO);
        C.is("play(1, 4)", x.play(1, 4), NO);
        C.is("play(-1, 1)", x.play(-1, 1), NO);
        C.is("play(1, -1)", x.play(1, -1), NO);
        x.tell(1, 2, 0, 6);
        C.is("play(1, 2)", x.play(1, 2), 0);
    }

    private static void pairs() {
        C.part("promise 31");
        TimeGaps x = Check.of(BASE);
        int[] due = {0, 3, 0, 1, 0, 2};
        for (int how = 0; how < 6; how++) {
            C.is("pairs(" + how + ")", x.pairs(how), due[how]);
        }
        C.is("pairs(-1)", x.pairs(-1), NO);
        C.is("pairs(6)", x.pairs(6), NO);
        x = Check.of("end 40;event a;event b;event c;gap c a least 0;gap b a least 1;pin c 0;");
        int[] then = {1, 1, 2, 1, 1, 0};
        for (int how = 0; how < 6; how++) {
            C.is("pairs(" + how + ")", x.pairs(how), then[how]);
        }
        C.is("START alone", new TimeGaps().pairs(5), 0);
    }

    private static void direct() {
        C.part("promise 32");
        TimeGaps x = Check.of(BASE);
        C.is("direct(1, 0)", x.direct(1, 0), 0);
        C.is("direct(0, 1)", x.direct(0, 1), TimeGaps.NOT_FOUND);
        C.is("direct(2, 1)", x.direct(2, 1), 1);
        C.is("direct(1, 2)", x.direct(1, 2), TimeGaps.NOT_FOUND);
        C.is("direct(2, 3)", x.direct(2, 3), 2);
        C.is("direct(3, 1), off", x.direct(3, 1), TimeGaps.NOT_FOUND);
        C.is("direct(0, 2), by END", x.direct(0, 2), TimeGaps.NOT_FOUND);
        C.is("direct(1, 1)", x.direct(1, 1), NO);
        C.is("direct(4, 1)", x.direct(4, 1), NO);
        C.is("direct(1, 4)", x.direct(1, 4), NO);
        C.is("direct(-1, 1)", x.direct(-1, 1), NO);
        C.is("direct(1, -1)", x.direct(1, -1), NO);
        x.set(1, 3);
        C.is("direct(2, 1)", x.direct(2, 1), 1);
        x.turn(1);
        C.is("direct(2, 1)", x.direct(2, 1), 4);
        x.set(2, 33);
        C.is("as far by END", x.direct(2, 3), 2);
        x.set(2, 34);
        C.is("not tight", x.direct(2, 3), TimeGaps.NOT_FOUND);
    }

    private static void ordered() {
        C.part("promise 33");
        TimeGaps x = Check.of("end 40;event a;event b;event c;event d;gap start a least 9;gap start b least 3;"
                + "gap start d least 3;");
        int[] due = {0, 3, 2, 4, 1};
        for (int i = 0; i < 5; i++) {
            C.is("ordered(" + i + ")", x.ordered(i), due[i]);
        }
        C.is("ordered(5)", x.ordered(5), TimeGaps.NOT_FOUND);
        x.set(0, 4);
        C.is("earlier by 1", x.ordered(2), 2);
        C.is("earlier by 1", x.ordered(3), 4);
        C.is("later by 1", x.ordered(4), 1);
        C.is("ordered(max)", x.ordered(Integer.MAX_VALUE), TimeGaps.NOT_FOUND);
        C.is("ordered(-1)", x.ordered(-1), NO);
        C.is("ordered(min)", x.ordered(Integer.MIN_VALUE), NO);
        C.is("START alone", new TimeGaps().ordered(0), 0);
        C.is("START alone", new TimeGaps().ordered(1), TimeGaps.NOT_FOUND);
    }

    private static void middle() {
        C.part("promise 34");
        TimeGaps x = Check.of(BASE);
        // a from 4 to 34: 19; b from 25 to 40: 32; c from 0 to 40: 20.
        C.is("middle(0)", x.middle(0), 0);
        C.is("middle(1)", x.middle(1), 19);
        C.is("middle(2)", x.middle(2), 32);
        C.is("middle(3)", x.middle(3), 20);
        C.is("middle(4)", x.middle(4), NO);
        C.is("middle(-1)", x.middle(-1), NO);
        C.is("nothing is pinned", x.value(4), 0);
        C.is("bounds stay", x.bound(0, 1), 34);
        // c pinned: a from 4 to 22: 13; b from 19 to 28 with c at most 8 behind b.
        x = Check.of("end 40;event a;event b;event c;gap start a least 4;gap a b least 6;gap b c most 8;"
                + "gap b c least 2;pin c 30;");
        C.is("middle(1)", x.middle(1), 13);
        C.is("middle(2)", x.middle(2), 25);
        C.is("middle(3)", x.middle(3), 30);
        // a from 0 to 40 at 20 leaves b from 0 to 23: 11, and c from 6 to 11: 8.
        x = Check.of("end 40;event a;event b;event c;gap a b most 3;gap b c most 0;gap c b most 5;");
        C.is("middle(1)", x.middle(1), 20);
        C.is("middle(2)", x.middle(2), 11);
        C.is("middle(3)", x.middle(3), 8);
    }

    private static void lastly() {
        C.part("promise 35");
        TimeGaps x = Check.of("end 40;event a;event b;event c;event d;gap start b most 9;gap start c most 40;"
                + "gap start d most 9;gap start a most 0;");
        int[] due = {0, 1, 2, 4, 3};
        for (int i = 0; i < 5; i++) {
            C.is("lastly(" + i + ")", x.lastly(i), due[i]);
        }
        x.set(3, 30);
        int[] then = {0, 2, 4, 1, 3};
        for (int i = 0; i < 5; i++) {
            C.is("lastly(" + i + ")", x.lastly(i), then[i]);
        }
        C.is("lastly(5)", x.lastly(5), TimeGaps.NOT_FOUND);
        x.set(3, 10);
        C.is("later by 1", x.lastly(1), 2);
        C.is("later by 1", x.lastly(2), 4);
        C.is("later by 1", x.lastly(3), 1);
        C.is("lastly(max)", x.lastly(Integer.MAX_VALUE), TimeGaps.NOT_FOUND);
        C.is("lastly(-1)", x.lastly(-1), NO);
        C.is("START alone", new TimeGaps().lastly(0), 0);
        C.is("START alone", new TimeGaps().lastly(1), TimeGaps.NOT_FOUND);
    }

    private static void can() {
        C.part("promise 36");
        TimeGaps x = Check.of(BASE);
        C.is("can(1, 3)", x.can(1, 3), 0);
        C.is("can(1, 4)", x.can(1, 4), 1);
        C.is("can(1, 34)", x.can(1, 34), 1);
        C.is("can(1, 35)", x.can(1, 35), 0);
        C.is("can(3, -1)", x.can(3, -1), 0);
        C.is("can(3, min)", x.can(3, Integer.MIN_VALUE), 0);
        C.is("can(3, max)", x.can(3, Integer.MAX_VALUE), 0);
        C.is("can(0, 0)", x.can(0, 0), 1);
        C.is("can(0, 1)", x.can(0, 1), 0);
        C.is("can(4, 0)", x.can(4, 0), NO);
        C.is("can(-1, 0)", x.can(-1, 0), NO);
    }

    private static void widest() {
        C.part("promise 37");
        TimeGaps x = Check.of(BASE);
        C.is("widest", x.widest(), 2);
        C.is("START alone", new TimeGaps().widest(), TimeGaps.NOT_FOUND);
        // From the START it is never less far than from another one.
        x = Check.of("end 40;event a;event b;gap start a most 9;gap start b most 5;");
        C.is("widest", x.widest(), 1);
        x = Check.of("end 40;event a;event b;gap start a most 5;gap start b most 9;");
        C.is("widest", x.widest(), 2);
        x = Check.of("end 40;event a;event b;event c;gap start a most 5;");
        C.is("of several the smallest", x.widest(), 2);
        x = Check.of("end 40;event a;event b;pin a 0;pin b 0;");
        C.is("none above nought", x.widest(), 1);
    }

    private static void freest() {
        C.part("promise 38");
        TimeGaps x = Check.of(BASE);
        C.is("freest", x.freest(), 3);
        x.pin(3, 0);
        C.is("of several the smallest", x.freest(), 1);
        x.pin(1, 4);
        C.is("freest", x.freest(), 2);
        x.pin(2, 10);
        C.is("one time each", x.freest(), 0);
        C.is("START alone", new TimeGaps().freest(), 0);
    }
}
