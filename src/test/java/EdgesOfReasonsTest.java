/**
 * Promises 39 to 58: each sentence that names a boundary case.
 */
public final class EdgesOfReasonsTest {
    private static final Check C = new Check("EdgesOfReasonsTest");
    private static final int INVALID = TimeGaps.INVALID;
    private static final int NOT_FOUND = TimeGaps.NOT_FOUND;
    private static final int WRONG_STATE = TimeGaps.WRONG_STATE;
    private static final int DENIED = TimeGaps.DENIED;
    private static final String BASE = "end 40;event a;event b;event c;gap start a least 4;gap a b least 6;"
            + "gap b c most 8;gap c a most 2 off;gap a b least 3;";

    public static void main(String[] args) {
        why();
        whyByTwoSteps();
        ring();
        culprit();
        tightest();
        spare();
        needless();
        needs();
        ifTold();
        ifDropped();
        ifTurned();
        ifPinned();
        leastEnd();
        slowest();
        log();
        tightShare();
        meanRoom();
        list();
        listByte();
        setup();
        setupByte();
        C.finish();
    }

    private static TimeGaps base() {
        return Check.of(BASE);
    }

    /** Fills up to 24 gaps with such as tell nothing new. */
    private static TimeGaps full(TimeGaps x) {
        for (int gap = x.value(2); gap < 24; gap++) {
            x.tell(0, 1, 0, 999);
        }
        return x;
    }

    private static void why() {
        C.part("39: INVALID for an invalid argument, twice the same event or any other depth");
        TimeGaps x = base();
        C.pair("why", (one, other) -> x.why(one, other, 0, 40, 0));
        C.range("why, kind", kind -> x.why(1, 2, kind, 5, 0), 0, 1, 1, 0);
        C.range("why, n", n -> x.why(1, 2, 0, n, 0), 0, 999, 1, 0);
        C.range("why, n of least", n -> x.why(1, 2, 1, n, 0), 0, 999, 0, 2);
        C.range("why, depth", depth -> x.why(1, 2, 0, 5, depth), 0, 2, 1, 1);
        C.range("why, depth, not denied", depth -> x.why(1, 2, 0, 6, depth), 0, 2, 0, NOT_FOUND);
        C.part("39: NOT_FOUND for a cause if it would not be denied");
        C.is("just denied", x.why(1, 2, 0, 5, 0), 1);
        C.is("by 1", x.why(1, 2, 0, 5, 1), 1);
        C.is("the first step", x.why(1, 2, 0, 5, 2), 1);
        C.is("just not denied", x.why(1, 2, 0, 6, 0), 0);
        C.is("no cause", x.why(1, 2, 0, 6, 1), NOT_FOUND);
        C.is("no cause of that", x.why(1, 2, 0, 6, 2), NOT_FOUND);
        C.is("least, just denied", x.why(1, 2, 1, 37, 1), 1);
        C.is("least, just not denied", x.why(1, 2, 1, 36, 1), NOT_FOUND);
        C.is("the greatest", Check.of("end 1;event a;event b;").why(1, 2, 1, 999, 1), 998);
        C.is("the greatest of all", Check.of("end 999;event a;gap start a least 999;").why(1, 0, 1, 999, 1), 1998);
        C.part("39: whatever the number of gaps");
        full(x);
        C.is("denied", x.why(1, 2, 0, 5, 0), 1);
        C.is("not denied", x.why(1, 2, 0, 6, 0), 0);
        C.is("no entry of the log for it", x.value(11), 19);
    }

    private static void whyByTwoSteps() {
        C.part("39: 1 a ring of two steps denies (with its own one), 2 a longer ring");
        TimeGaps x = Check.of("end 40;event a;event b;event c;gap a b least 3;gap a c least 3;gap c b least 3;");
        C.is("two steps just do not", x.why(1, 2, 0, 3, 0), 2);
        C.is("two steps just do", x.why(1, 2, 0, 2, 0), 1);
        C.is("the least sum is the longer one's", x.why(1, 2, 0, 2, 1), 4);
        C.is("the WAY back is the longer one", x.why(1, 2, 0, 2, 2), 2);
        C.is("two steps by END", x.why(0, 1, 1, 41, 0), 1);
        C.is("longer than END", x.why(0, 1, 1, 35, 0), 2);
        C.is("two steps to the START by 0", x.why(1, 0, 1, 1, 0), 1);
        C.is("two steps to the START by 0, just not", x.why(2, 0, 1, 0, 0), 2);
        TimeGaps y = full(Check.of("end 40;event a;event b;event c;event d;event e;event f;event g;event h;event i;"
                + "gap a b least 3;gap b c least 3;"));
        y.pinAll();
        C.is("60 steps", y.value(5), 60);
        C.is("two of 60 steps just do", y.why(1, 2, 0, 2, 0), 1);
        C.is("none of 60 steps", y.why(1, 3, 0, 5, 0), 2);
        C.is("the last one of 60 steps", y.why(0, 9, 1, 1, 0), 1);
        C.is("the last one of 60 steps, just not", y.why(0, 9, 1, 0, 0), 0);
        x.turn(0);
        C.is("one that is off is none", x.why(1, 2, 0, 2, 0), 2);
        x.pin(2, 20);
        C.is("two steps by a pin", x.why(0, 2, 0, 19, 0), 1);
        C.is("two steps by a pin", x.why(0, 2, 1, 21, 0), 1);
        C.is("a pin, just not", x.why(0, 2, 1, 20, 0), 0);
    }

    private static void ring() {
        C.part("40: INVALID for an invalid argument, twice the same event or a negative i");
        TimeGaps x = base();
        C.pair("ring", (one, other) -> x.ring(one, other, 1, 999, 0));
        C.beyond("ring, kind", kind -> x.ring(1, 2, kind, 5, 0), 0, 1, INVALID);
        C.range("ring, n", n -> x.ring(1, 2, 0, n, 0), 0, 999, 1, NOT_FOUND);
        C.range("ring, n of least", n -> x.ring(0, 3, 1, n, 0), 0, 999, NOT_FOUND, 103);
        C.is("negative, not denied", x.ring(1, 2, 0, 6, -1), INVALID);
        C.part("40: NOT_FOUND if the gap would not be denied, or there are not so many");
        C.is("just not denied", x.ring(1, 2, 0, 6, 0), NOT_FOUND);
        C.index("ring of one", i -> x.ring(1, 2, 0, 5, i), 1, 1);
        C.index("ring of three", i -> x.ring(3, 1, 1, 35, i), 3, 1);
        C.part("40: the WAY from the event where its own step ends to that where it begins");
        C.is("most", x.ring(0, 2, 0, 9, 0), 1);
        C.is("most", x.ring(0, 2, 0, 9, 1), 0);
        C.is("least", x.ring(1, 3, 1, 37, 0), 0);
        C.is("least", x.ring(1, 3, 1, 37, 1), 103);
        C.is("with 24 gaps", full(x).ring(1, 3, 1, 37, 1), 103);
    }

    private static void culprit() {
        C.part("41: INVALID for an invalid argument or twice the same event");
        TimeGaps x = base();
        C.pair("culprit", (one, other) -> x.culprit(one, other, 0, 5));
        C.beyond("culprit, kind", kind -> x.culprit(1, 2, kind, 5), 0, 1, INVALID);
        C.range("culprit, n", n -> x.culprit(1, 2, 0, n), 0, 999, NOT_FOUND, NOT_FOUND);
        C.part("41: NOT_FOUND if the gap would not be denied, or there is none");
        C.is("just not denied", x.culprit(1, 2, 0, 6), NOT_FOUND);
        C.is("just denied", x.culprit(1, 2, 0, 5), 1);
        C.is("the other one just does not deny", x.culprit(1, 2, 0, 3), 1);
        C.is("the other one denies, too", x.culprit(1, 2, 0, 2), NOT_FOUND);
        C.is("END denies", x.culprit(0, 3, 1, 41), NOT_FOUND);
        C.is("without gaps", Check.of("end 9;event a;").culprit(0, 1, 1, 10), NOT_FOUND);
        C.part("41: the smallest gap that is on");
        C.is("the first of two on the WAY", x.culprit(0, 2, 0, 9), 0);
        x.turn(0);
        C.is("one that is off", x.culprit(0, 2, 0, 5), 1);
        C.is("the last of 24", lastOf24().culprit(0, 1, 0, 4), 23);
        C.is("none of 24", lastOf24().culprit(0, 1, 1, 41), NOT_FOUND);
        C.is("each of two of 24", lastOf24().culprit(0, 1, 1, 40), NOT_FOUND);
    }

    private static TimeGaps lastOf24() {
        StringBuilder setup = new StringBuilder("end 40;event a;");
        for (int gap = 0; gap < 23; gap++) {
            setup.append("gap start a most 39;");
        }
        return Check.of(setup + "gap start a least 5;");
    }

    private static void tightest() {
        C.part("42: INVALID for an invalid argument or twice the same event");
        TimeGaps x = base();
        C.pair("tightest", (one, other) -> x.tightest(one, other, 0));
        C.range("tightest, kind", kind -> x.tightest(1, 2, kind), 0, 1, 6, 36);
        C.part("42: of the kind 0 the least N, 0 to 999, of the kind 1 the greatest one");
        C.is("the BOUND back is above 0", x.tightest(3, 2, 0), 0);
        C.is("the BOUND back is 0", x.tightest(3, 0, 0), 0);
        TimeGaps y = Check.of("end 999;event a;gap start a least 999;");
        C.is("most, 999", y.tightest(0, 1, 0), 999);
        C.is("least, 999", y.tightest(0, 1, 1), 999);
        C.is("least, 0", Check.of("end 9;event a;").tightest(1, 0, 1), 0);
        C.part("42: NOT_FOUND if there is none");
        TimeGaps z = Check.of("end 9;event a;gap start a least 1;");
        C.is("least, below 0 by 1", z.tightest(1, 0, 1), NOT_FOUND);
        z.set(0, 0);
        C.is("least, just 0", z.tightest(1, 0, 1), 0);
        for (int kind = 0; kind < 2; kind++) {
            int n = x.tightest(1, 2, kind);
            C.is("it is not denied", base().tell(1, 2, kind, n), 5);
            C.is("a tighter one is", base().tell(1, 2, kind, n + 2 * kind - 1), DENIED);
        }
        C.is("whatever the number of gaps", full(x).tightest(1, 2, 0), 6);
    }

    private static void spare() {
        C.part("43: INVALID for an invalid argument; WRONG_STATE if it is off");
        C.range("spare", gap -> base().spare(gap), 0, 4, 30, 33);
        C.is("off", base().spare(3), WRONG_STATE);
        C.is("without gaps", new TimeGaps().spare(0), INVALID);
        C.part("43: of the kind 0, down to 0");
        TimeGaps x = Check.of("end 999;event a;gap start a most 999;gap start a least 0;");
        C.is("all", x.spare(0), 999);
        x.set(0, 0);
        C.is("none", x.spare(0), 0);
        x.set(0, 1);
        C.is("one", x.spare(0), 1);
        x.set(1, 1);
        C.is("none, by the other one", x.spare(0), 0);
        C.part("43: of the kind 1, up to 999");
        x = Check.of("end 999;event a;gap start a least 0;");
        C.is("all", x.spare(0), 999);
        x.set(0, 999);
        C.is("none", x.spare(0), 0);
        x.set(0, 998);
        C.is("one", x.spare(0), 1);
        x.end(998);
        C.is("none, by END", x.spare(0), 0);
        C.part("43: without being denied");
        // The gap, its N, the tightest one, and what one more answers.
        int[][] tightest = {{0, 4, 34, DENIED}, {1, 6, 36, DENIED}, {2, 8, 0, INVALID}, {4, 3, 36, DENIED}};
        for (int[] row : tightest) {
            boolean most = row[2] < row[1];
            C.is("spare", base().spare(row[0]), most ? row[1] - row[2] : row[2] - row[1]);
            C.is("so much is not denied", base().set(row[0], row[2]), row[1]);
            C.is("more is", base().set(row[0], most ? row[2] - 1 : row[2] + 1), row[3]);
        }
    }

    private static void needless() {
        C.part("44: the smallest gap that is on and not needed; NOT_FOUND if there is none");
        C.is("without gaps", new TimeGaps().needless(), NOT_FOUND);
        C.is("off alone", Check.of("end 9;event a;gap start a most 9 off;").needless(), NOT_FOUND);
        TimeGaps x = Check.of("end 9;event a;gap start a most 8;gap start a most 7 off;");
        C.is("needed", x.needless(), NOT_FOUND);
        x.set(0, 9);
        C.is("tight by END", x.needless(), 0);
        x.set(0, 10);
        C.is("not tight", x.needless(), 0);
        x.turn(1);
        C.is("the other one is needed", x.needless(), 0);
        x.set(0, 7);
        C.is("both alike", x.needless(), 0);
        x.set(0, 6);
        C.is("not tight by 1", x.needless(), 1);
        C.is("the last of 24", Check.of("end 9;event a;event b;" + "gap a b least 3 off;".repeat(22)
                + "gap start a most 8;gap start a most 9;").needless(), 23);
    }

    private static void needs() {
        C.part("45: INVALID for an invalid argument");
        C.range("needs", event -> base().needs(event), 0, 3, 1, 1);
        C.part("45: how many needed gaps have it");
        C.is("without gaps", new TimeGaps().needs(0), 0);
        TimeGaps x = Check.of("end 999;event a;event b;event c;event d;event e;event f;event g;event h;event i;");
        for (int event = 1; event < 10; event++) {
            x.tell(0, event, 1, 9);
            x.tell(0, event, 0, 90);
        }
        for (int event = 2; event < 8; event++) {
            x.tell(1, event, 0, 5);
        }
        C.is("value(2)", x.value(2), 24);
        // Event 1 at 90 at most, thus 2 to 7 at 95: their own 90 is less.
        C.is("needs(0)", x.needs(0), 18);
        C.is("needs(1)", x.needs(1), 8);
        C.is("needs(7)", x.needs(7), 3);
        C.is("needs(9)", x.needs(9), 2);
        x.turn(0);
        C.is("one that is off", x.needs(0), 17);
        C.is("one that is off", x.needs(1), 7);
    }

    private static void ifTold() {
        C.part("46: INVALID for an invalid argument, twice the same event or any other what; DENIED");
        TimeGaps x = base();
        C.pair("ifTold", (one, other) -> x.ifTold(one, other, 0, 40, 0));
        C.range("ifTold, kind", kind -> x.ifTold(1, 2, kind, 6, 2), 0, 1, 100, 100);
        C.range("ifTold, n", n -> x.ifTold(1, 2, 0, n, 2), 0, 999, DENIED, 100);
        C.range("ifTold, n of least", n -> x.ifTold(1, 2, 1, n, 2), 0, 999, 100, DENIED);
        C.range("ifTold, what", what -> x.ifTold(1, 2, 0, 6, what), 0, 2, 2, 100);
        C.range("ifTold, what, denied", what -> x.ifTold(1, 2, 0, 5, what), 0, 2, DENIED, DENIED);
        C.is("just denied", x.ifTold(1, 2, 1, 37, 0), DENIED);
        C.is("just not denied", x.ifTold(1, 2, 1, 36, 2), 40);
        C.part("46: how many would change");
        C.is("none", x.ifTold(1, 2, 0, 36, 0), 0);
        C.is("none", x.ifTold(1, 2, 0, 36, 1), 0);
        C.is("one pair", x.ifTold(1, 2, 0, 35, 0), 1);
        C.is("no times", x.ifTold(1, 2, 0, 35, 1), 0);
        TimeGaps y = Check.of("end 999;event a;event b;event c;event d;event e;event f;event g;event h;event i;");
        C.is("all by one", y.ifTold(1, 0, 1, 0, 0), 9);
        y.tell(0, 1, 1, 0);
        for (int event = 1; event < 9; event++) {
            y.tell(event, event + 1, 1, 0);
        }
        C.is("all events", y.ifTold(0, 1, 1, 999, 1), 9);
        C.is("no room", y.ifTold(0, 1, 1, 999, 2), 0);
        C.is("as many as there can be", y.ifTold(0, 1, 1, 999, 0), 9 + 36);
        C.is("not FULL", full(y).ifTold(0, 1, 1, 999, 1), 9);
        C.is("nothing is told", y.value(2), 24);
        C.is("nothing is denied", y.log(y.value(11) - 1, 0), 1);
    }

    private static void ifDropped() {
        C.part("47: INVALID for an invalid argument or any other what");
        TimeGaps x = base();
        C.range("ifDropped, gap", gap -> x.ifDropped(gap, 2), 0, 4, 108, 100);
        C.range("ifDropped, what", what -> x.ifDropped(0, what), 0, 2, 4, 108);
        C.is("without gaps", new TimeGaps().ifDropped(0, 0), INVALID);
        C.is("off", x.ifDropped(3, 0), 0);
        C.is("off", x.ifDropped(3, 2), 100);
        C.is("value(2)", x.value(2), 5);
        TimeGaps y = lastOf24();
        C.is("the last of 24", y.ifDropped(23, 2), 39);
        C.is("one of many alike", y.ifDropped(0, 0), 0);
    }

    private static void ifTurned() {
        C.part("48: INVALID for an invalid argument or any other what; DENIED");
        TimeGaps x = base();
        C.range("ifTurned, gap", gap -> x.ifTurned(gap, 2), 0, 4, 108, 100);
        C.range("ifTurned, what", what -> x.ifTurned(3, what), 0, 2, 3, 98);
        C.range("ifTurned, what of one that is on", what -> x.ifTurned(0, what), 0, 2, 4, 108);
        C.is("without gaps", new TimeGaps().ifTurned(0, 0), INVALID);
        TimeGaps y = Check.of("end 40;event a;event b;gap a b least 6;gap a b most 5 off;gap a b most 6 off;");
        C.range("ifTurned, what, denied", what -> y.ifTurned(1, what), 0, 2, DENIED, DENIED);
        C.is("just not denied", y.ifTurned(2, 0), 1);
        C.is("off is not denied", y.ifTurned(0, 2), 80);
        C.is("nothing is turned", y.value(3), 1);
    }

    private static void ifPinned() {
        C.part("49: INVALID for an invalid argument or any other what; WRONG_STATE as for pin(); DENIED");
        TimeGaps x = base();
        C.range("ifPinned, event", event -> x.ifPinned(event, 20, 2), 0, 3, WRONG_STATE, 30 + 28);
        C.range("ifPinned, time", time -> x.ifPinned(3, time, 2), 0, 40, 60, 30 + 8);
        C.range("ifPinned, what", what -> x.ifPinned(1, 10, what), 0, 2, 6, 64);
        C.is("too early by 1", x.ifPinned(1, 3, 0), DENIED);
        C.is("earliest", x.ifPinned(1, 4, 2), 70);
        C.is("latest", x.ifPinned(1, 34, 2), 40);
        C.is("too late by 1", x.ifPinned(1, 35, 0), DENIED);
        x.pin(1, 10);
        C.is("pinned", x.ifPinned(1, 10, 0), WRONG_STATE);
        C.is("one pin", x.value(4), 1);
        TimeGaps y = Check.of("end 9;event a;gap start a least 9;");
        C.is("nothing changes", y.ifPinned(1, 9, 0), 0);
        C.is("nothing changes", y.ifPinned(1, 9, 1), 0);
        C.is("not pinned", y.event(1, 3), NOT_FOUND);
    }

    private static void leastEnd() {
        C.part("50: the least END, 1 to 999, with which no ring would deny");
        C.is("1, not 0", new TimeGaps().leastEnd(), 1);
        C.is("1, not 0", Check.of("end 9;event a;pin a 0;").leastEnd(), 1);
        C.is("1", Check.of("end 9;event a;gap start a least 1;").leastEnd(), 1);
        C.is("2", Check.of("end 9;event a;gap start a least 2;").leastEnd(), 2);
        C.is("999", Check.of("end 999;event a;pin a 999;").leastEnd(), 999);
        C.is("END", Check.of("end 9;event a;event b;gap a b least 9;").leastEnd(), 9);
        TimeGaps x = base();
        C.is("leastEnd", x.leastEnd(), 10);
        C.is("below by 1", base().end(9), DENIED);
        C.is("it", base().end(10), 40);
        C.is("END stays", x.value(0), 40);
    }

    private static void slowest() {
        C.part("51: NOT_FOUND without gaps that are on");
        C.is("without gaps", new TimeGaps().slowest(), NOT_FOUND);
        C.is("off", Check.of("end 9;event a;gap start a least 3 off;").slowest(), NOT_FOUND);
        C.part("51: of several the smallest one (also if none makes it less)");
        C.is("none makes it less", Check.of("end 9;event a;gap start a most 3;gap start a most 3;").slowest(), 0);
        C.is("one that is off", Check.of("end 9;event a;gap start a most 3 off;gap start a most 3;").slowest(), 1);
        C.is("both alike", Check.of("end 9;event a;gap start a least 3;gap start a least 3;").slowest(), 0);
        C.is("less by 1", Check.of("end 9;event a;gap start a least 2;gap start a least 3;").slowest(), 1);
        C.is("two behind one another", Check.of("end 9;event a;event b;gap start a least 3;gap a b least 3;").slowest(), 0);
        C.is("the second by 1", Check.of("end 9;event a;event b;gap start a least 3;gap a b least 4;").slowest(), 1);
        C.is("the last of 24", lastOf24().slowest(), 23);
    }

    private static void log() {
        C.part("52: INVALID for a negative i or any other what; NOT_FOUND if there are not so many");
        TimeGaps x = new TimeGaps();
        C.is("empty", x.log(0, 0), NOT_FOUND);
        C.is("empty, negative", x.log(-1, 0), INVALID);
        C.is("empty, what", x.log(0, 3), INVALID);
        x.end(7);
        C.range("log, what", what -> x.log(0, what), 0, 2, 7, 100);
        C.index("log of one", i -> x.log(i, 1), 1, 7);
        for (int end = 8; end < 47; end++) {
            x.end(end);
        }
        C.index("log of 40", i -> x.log(i, 1), 40, 46);
        C.is("from 0 for the oldest one that is kept", x.log(0, 1), 7);
        x.end(47);
        C.index("log of 41", i -> x.log(i, 1), 40, 47);
        C.is("the oldest one dropped out", x.log(0, 1), 8);
    }

    private static void tightShare() {
        C.part("53: 0 without any");
        C.isReal("without gaps", new TimeGaps().tightShare(), 0.0);
        C.isReal("off", Check.of("end 9;event a;gap start a most 3 off;").tightShare(), 0.0);
        C.isReal("none is tight", Check.of("end 9;event a;gap start a most 10;").tightShare(), 0.0);
        C.isReal("all are", Check.of("end 9;event a;gap start a most 9;").tightShare(), 1.0);
        C.isReal("a float", Check.of("end 9;event a;gap start a most 9;" + "gap start a most 10;".repeat(23))
                .tightShare(), 1f / 24f);
    }

    private static void meanRoom() {
        C.part("54: value(10) divided by the number of events");
        C.isReal("the START alone", new TimeGaps().meanRoom(), 0.0);
        C.isReal("a half", Check.of("end 1;event a;").meanRoom(), 0.5);
        C.isReal("a third", Check.of("end 1;event a;event b;pin a 0;").meanRoom(), 1.0 / 3.0);
        C.isReal("the greatest", Check.of("end 999;event a;event b;event c;event d;event e;event f;event g;event h;"
                + "event i;").meanRoom(), 899.1);
        C.isReal("none", Check.of("end 9;event a;pin a 9;").meanRoom(), 0.0);
    }

    private static void list() {
        C.part("55: a hyphen and the latest time if it is another one; an exclamation mark if it is pinned");
        C.isText("the START alone", Check.list(new TimeGaps()), "start 0\n");
        TimeGaps x = Check.of("end 100;event a;event bcdef;event g;event h;event i;gap start a least 9;"
                + "gap start a most 10;gap start bcdef least 99;gap start g least 100;pin h 0;pin i 100;");
        String due = "start 0\na 9-10\nbcdef 99-100\ng 100\nh 0!\ni 100!\n";
        C.isText("list", Check.list(x), due);
        C.is("listLength", x.listLength(), due.length());
        x.set(0, 10);
        C.isText("one time", Check.list(x), due.replace("a 9-10", "a 10"));
        C.is("listLength", x.listLength(), due.length() - 2);
        x.unpin(4);
        C.isText("not pinned any more", Check.list(x), due.replace("a 9-10", "a 10").replace("h 0!", "h 0-100"));
        C.is("the shortest", new TimeGaps().listLength(), 8);
        StringBuilder setup = new StringBuilder("end 999;");
        for (int i = 0; i < 9; i++) {
            setup.append("event abcd").append((char) ('a' + i)).append(";");
        }
        x = Check.of(setup.toString());
        for (int i = 1; i < 10; i++) {
            x.tell(0, i, 1, 100);
        }
        C.is("the longest", x.listLength(), 8 + 9 * 14);
        C.is("its last byte", x.listByte(8 + 9 * 14 - 1), '\n');
        C.is("its last digit", x.listByte(8 + 9 * 14 - 2), '9');
    }

    private static void listByte() {
        C.part("56: INVALID for a negative i; NOT_FOUND if the list is not so long");
        C.index("list of the START", i -> new TimeGaps().listByte(i), 8, '\n');
        TimeGaps x = Check.of("end 9;event a;pin a 7;");
        C.index("list", i -> x.listByte(i), 8 + 5, '\n');
        C.is("the first one", x.listByte(0), 's');
        C.is("the mark", x.listByte(11), '!');
        x.unpin(1);
        C.is("a hyphen", x.listByte(11), '-');
        C.index("longer then", i -> x.listByte(i), 8 + 6, '\n');
    }

    private static void setup() {
        C.part("57: one space between tokens, none before a semicolon, nothing behind it; no leading zeros");
        C.isText("the START alone", Check.setup(new TimeGaps()), "end 100;");
        C.is("the shortest", Check.of("end 1;").setupLength(), 6);
        TimeGaps x = new TimeGaps();
        Check.load(x, " end 009 ;event  a ;\nevent b;gap a b  most 000 ;gap b a least 00 off ;gap a b most 010;"
                + "gap a b most 100;pin b 00;pin a 0;");
        String due = "end 9;event a;event b;gap a b most 0;gap b a least 0 off;gap a b most 10;gap a b most 100;"
                + "pin a 0;pin b 0;";
        C.isText("by the numbers of events", Check.setup(x), due);
        C.is("setupLength", x.setupLength(), due.length());
        for (int end : new int[] {1, 9, 10, 99, 101, 999}) {
            TimeGaps y = new TimeGaps();
            y.end(end);
            C.isText("END", Check.setup(y), "end " + end + ";");
        }
        TimeGaps z = Check.of(due);
        C.isText("it describes the same", Check.setup(z), due);
    }

    private static void setupByte() {
        C.part("58: INVALID for a negative i; NOT_FOUND if the text is not so long");
        C.index("text of the START", i -> new TimeGaps().setupByte(i), 8, ';');
        C.is("the first one", new TimeGaps().setupByte(0), 'e');
        TimeGaps x = new TimeGaps();
        x.end(999);
        for (int i = 0; i < 9; i++) {
            Check.open(x, "abcd" + (char) ('a' + i));
        }
        for (int gap = 0; gap < 24; gap++) {
            x.tell(8, 9, 1, 100);
            x.turn(gap);
        }
        for (int event = 1; event < 10; event++) {
            x.pin(event, 100);
        }
        C.is("the longest", x.setupLength(), 8 + 9 * 12 + 24 * 30 + 9 * 14);
        C.index("the longest", i -> x.setupByte(i), 962, ';');
        C.is("its last digit", x.setupByte(960), '0');
        C.is("longer than a tape", x.setupByte(900), 'e');
    }
}
