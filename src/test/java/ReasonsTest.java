/** Promises 39 to 45: reasons. */
public final class ReasonsTest {
    private static final Check C = new Check("ReasonsTest");
    private static final String BASE = "end 40;event a;event b;event c;gap start a least 4;gap a b least 6;"
            + "gap b c most 8;gap c a most 2 off;gap a b least 3;";
    private static final String CHAIN = "end 40;event a;event b;event c;gap a b least 3;gap a c least 3;"
            + "gap c b least 3;";
    private static final int NO = TimeGaps.INVALID;
    private static final int NONE = TimeGaps.NOT_FOUND;

    public static void main(String[] args) {
        why();
        whyByTwoStepsAndMore();
        whyWrong();
        ring();
        culprit();
        tightest();
        spare();
        needless();
        needs();
        C.finish();
    }

    private static void reasons(TimeGaps x, int one, int other, int kind, int n, int... due) {
        for (int depth = 0; depth < 3; depth++) {
            C.is("why(" + one + ", " + other + ", " + kind + ", " + n + ", " + depth + ")",
                    x.why(one, other, kind, n, depth), due[depth]);
        }
    }

    private static void why() {
        C.part("promise 39");
        TimeGaps x = Check.of(BASE);
        reasons(x, 1, 2, 0, 6, 0, NONE, NONE);
        reasons(x, 1, 2, 0, 5, 1, 1, 1);
        reasons(x, 1, 2, 0, 0, 1, 6, 1);
        reasons(x, 0, 2, 0, 10, 0, NONE, NONE);
        reasons(x, 0, 2, 0, 9, 2, 1, 1);
        reasons(x, 0, 2, 1, 40, 0, NONE, NONE);
        reasons(x, 0, 2, 1, 41, 1, 1, 102);
        reasons(x, 0, 2, 1, 999, 1, 959, 102);
        reasons(x, 1, 0, 1, 0, 1, 4, 0);
        reasons(x, 3, 1, 1, 34, 0, NONE, NONE);
        reasons(x, 3, 1, 1, 35, 2, 1, 203);
        reasons(x, 3, 0, 1, 1, 1, 1, 203);
        C.is("no entry", x.value(11), 0);
        C.is("no operation", x.value(12), 0);
        x.pin(1, 5);
        reasons(x, 0, 1, 0, 4, 1, 1, 401);
        reasons(x, 0, 1, 1, 6, 1, 1, 301);
    }

    private static void whyByTwoStepsAndMore() {
        C.part("promise 39, two steps and more");
        TimeGaps x = Check.of(CHAIN);
        // A ring of two steps denies with -1, a longer one with -4.
        reasons(x, 1, 2, 0, 2, 1, 4, 2);
        reasons(x, 1, 2, 0, 3, 2, 3, 2);
        reasons(x, 1, 2, 0, 5, 2, 1, 2);
        reasons(x, 1, 2, 0, 6, 0, NONE, NONE);
        for (int i = 3; i < 24; i++) {
            x.tell(0, 1, 0, 40);
        }
        C.is("value(2)", x.value(2), 24);
        reasons(x, 1, 2, 0, 5, 2, 1, 2);
        C.is("not FULL", x.why(1, 2, 0, 6, 0), 0);
    }

    private static void whyWrong() {
        C.part("promise 39, wrong inputs");
        TimeGaps x = Check.of(BASE);
        C.is("one", x.why(-1, 2, 0, 5, 0), NO);
        C.is("one", x.why(4, 2, 0, 5, 0), NO);
        C.is("other", x.why(1, -1, 0, 5, 0), NO);
        C.is("other", x.why(1, 4, 0, 5, 0), NO);
        C.is("twice", x.why(1, 1, 0, 5, 0), NO);
        C.is("kind", x.why(1, 2, -1, 5, 0), NO);
        C.is("kind", x.why(1, 2, 2, 5, 0), NO);
        C.is("n", x.why(1, 2, 0, -1, 0), NO);
        C.is("n", x.why(1, 2, 0, 1000, 0), NO);
        C.is("depth", x.why(1, 2, 0, 5, -1), NO);
        C.is("depth", x.why(1, 2, 0, 5, 3), NO);
        C.is("depth", x.why(1, 2, 0, 9, 3), NO);
    }

    private static void ring() {
        C.part("promise 40");
        TimeGaps x = Check.of(BASE);
        int[] due = {203, 102, 1, NONE, NONE};
        for (int i = 0; i < due.length; i++) {
            C.is("ring(3, 1, 1, 35, " + i + ")", x.ring(3, 1, 1, 35, i), due[i]);
        }
        C.is("ring(3, 1, 1, 34, 0)", x.ring(3, 1, 1, 34, 0), NONE);
        C.is("ring(1, 2, 0, 5, 0)", x.ring(1, 2, 0, 5, 0), 1);
        C.is("ring(1, 2, 0, 5, 1)", x.ring(1, 2, 0, 5, 1), NONE);
        C.is("ring(0, 2, 0, 9, 0)", x.ring(0, 2, 0, 9, 0), 1);
        C.is("ring(0, 2, 0, 9, 1)", x.ring(0, 2, 0, 9, 1), 0);
        C.is("ring(0, 2, 0, 9, max)", x.ring(0, 2, 0, 9, Integer.MAX_VALUE), NONE);
        C.is("i", x.ring(0, 2, 0, 9, -1), NO);
        C.is("i", x.ring(0, 2, 0, 10, -1), NO);
        C.is("one", x.ring(-1, 2, 0, 9, 0), NO);
        C.is("one", x.ring(4, 2, 0, 9, 0), NO);
        C.is("other", x.ring(0, -1, 0, 9, 0), NO);
        C.is("other", x.ring(0, 4, 0, 9, 0), NO);
        C.is("twice", x.ring(2, 2, 0, 9, 0), NO);
        C.is("kind", x.ring(0, 2, 2, 9, 0), NO);
        C.is("kind", x.ring(0, 2, -1, 9, 0), NO);
        C.is("n", x.ring(0, 2, 0, -1, 0), NO);
        C.is("n", x.ring(0, 2, 0, 1000, 0), NO);
        // The way back is that of the least sum, though a ring of two steps denies.
        x = Check.of(CHAIN);
        C.is("ring(1, 2, 0, 2, 0)", x.ring(1, 2, 0, 2, 0), 2);
        C.is("ring(1, 2, 0, 2, 1)", x.ring(1, 2, 0, 2, 1), 1);
        C.is("ring(1, 2, 0, 2, 2)", x.ring(1, 2, 0, 2, 2), NONE);
    }

    private static void culprit() {
        C.part("promise 41");
        TimeGaps x = Check.of(BASE);
        C.is("culprit(1, 2, 0, 6)", x.culprit(1, 2, 0, 6), NONE);
        C.is("culprit(1, 2, 0, 5)", x.culprit(1, 2, 0, 5), 1);
        C.is("culprit(1, 2, 0, 3)", x.culprit(1, 2, 0, 3), 1);
        C.is("culprit(1, 2, 0, 2)", x.culprit(1, 2, 0, 2), NONE);
        C.is("culprit(0, 2, 0, 9)", x.culprit(0, 2, 0, 9), 0);
        C.is("culprit(0, 2, 0, 6)", x.culprit(0, 2, 0, 6), 0);
        C.is("culprit(0, 2, 0, 5)", x.culprit(0, 2, 0, 5), NONE);
        C.is("by END", x.culprit(0, 2, 1, 41), NONE);
        C.is("culprit(3, 1, 1, 35)", x.culprit(3, 1, 1, 35), 1);
        x.turn(0);
        C.is("not one that is off", x.culprit(0, 2, 0, 5), 1);
        C.is("one", x.culprit(-1, 2, 0, 5), NO);
        C.is("one", x.culprit(4, 2, 0, 5), NO);
        C.is("other", x.culprit(1, -1, 0, 5), NO);
        C.is("other", x.culprit(1, 4, 0, 5), NO);
        C.is("twice", x.culprit(1, 1, 0, 5), NO);
        C.is("kind", x.culprit(1, 2, 2, 5), NO);
        C.is("kind", x.culprit(1, 2, -1, 5), NO);
        C.is("n", x.culprit(1, 2, 0, -1), NO);
        C.is("n", x.culprit(1, 2, 0, 1000), NO);
        C.is("nothing is turned", x.value(3), 3);
        C.is("nothing is changed", x.value(12), 1);
    }

    private static void tightest() {
        C.part("promise 42");
        TimeGaps x = Check.of(BASE);
        int[][] most = {{NO, 4, 10, 0}, {0, NO, 6, 0}, {0, 0, NO, 0}, {0, 0, 0, NO}};
        int[][] least = {{NO, 34, 40, 40}, {NONE, NO, 36, 36}, {NONE, NONE, NO, 8}, {0, 34, 40, NO}};
        for (int one = 0; one < 4; one++) {
            for (int other = 0; other < 4; other++) {
                C.is("tightest(" + one + ", " + other + ", 0)", x.tightest(one, other, 0), most[one][other]);
                C.is("tightest(" + one + ", " + other + ", 1)", x.tightest(one, other, 1), least[one][other]);
            }
        }
        C.is("one", x.tightest(-1, 2, 0), NO);
        C.is("one", x.tightest(4, 2, 0), NO);
        C.is("other", x.tightest(1, -1, 0), NO);
        C.is("other", x.tightest(1, 4, 0), NO);
        C.is("kind", x.tightest(1, 2, -1), NO);
        C.is("kind", x.tightest(1, 2, 2), NO);
        x = Check.of("end 999;event a;gap start a least 999;");
        C.is("999", x.tightest(0, 1, 0), 999);
        C.is("999", x.tightest(0, 1, 1), 999);
        C.is("none", x.tightest(1, 0, 1), NONE);
    }

    private static void spare() {
        C.part("promise 43");
        TimeGaps x = Check.of(BASE);
        int[] due = {30, 30, 8, TimeGaps.WRONG_STATE, 33};
        for (int gap = 0; gap < due.length; gap++) {
            C.is("spare(" + gap + ")", x.spare(gap), due[gap]);
        }
        C.is("spare(5)", x.spare(5), NO);
        C.is("spare(-1)", x.spare(-1), NO);
        C.is("spare(max)", x.spare(Integer.MAX_VALUE), NO);
        x = Check.of("end 40;event a;event b;gap a b most 9;gap a b least 6;gap b a most 999;");
        C.is("spare(0)", x.spare(0), 3);
        C.is("spare(1)", x.spare(1), 3);
        C.is("spare(2)", x.spare(2), 999);
        x.set(0, 6);
        C.is("none", x.spare(0), 0);
        C.is("none", x.spare(1), 0);
        x = Check.of("end 999;event a;gap start a least 0;gap start a most 999;");
        C.is("up to 999", x.spare(0), 999);
        C.is("down to 0", x.spare(1), 999);
        C.is("set", x.set(0, 7), 0);
        C.is("down to 7", x.spare(1), 992);
    }

    private static void needless() {
        C.part("promise 44");
        TimeGaps x = Check.of(BASE);
        C.is("not tight", x.needless(), 4);
        x.set(4, 6);
        C.is("both alike", x.needless(), 1);
        x.turn(1);
        C.is("none, but one that is off", x.needless(), NONE);
        x.set(2, 29);
        C.is("none, with one nearer than END", x.needless(), NONE);
        x.set(2, 30);
        C.is("as far as END", x.needless(), 2);
        C.is("without gaps", new TimeGaps().needless(), NONE);
        x = Check.of("end 40;event a;gap start a most 40;");
        C.is("END tells it", x.needless(), 0);
    }

    private static void needs() {
        C.part("promise 45");
        TimeGaps x = Check.of(BASE);
        int[] due = {1, 2, 2, 1, NO};
        for (int event = 0; event < due.length; event++) {
            C.is("needs(" + event + ")", x.needs(event), due[event]);
        }
        C.is("needs(-1)", x.needs(-1), NO);
        x.set(4, 6);
        int[] then = {1, 1, 1, 1};
        for (int event = 0; event < then.length; event++) {
            C.is("needs(" + event + ")", x.needs(event), then[event]);
        }
        x.turn(3);
        C.is("the other one counts, too", x.needs(1), 2);
        C.is("needs(3)", x.needs(3), 2);
        C.is("without gaps", new TimeGaps().needs(0), 0);
    }
}
