/**
 * The sections 1 to 6 of the document: each sentence that names a boundary case, in its order.
 * The part tells the sentence.
 */
public final class EdgesOfTermsTest {
    private static final Check C = new Check("EdgesOfTermsTest");
    private static final int INVALID = TimeGaps.INVALID;
    private static final int NOT_FOUND = TimeGaps.NOT_FOUND;
    private static final int WRONG_STATE = TimeGaps.WRONG_STATE;
    private static final int FULL = TimeGaps.FULL;
    private static final int DENIED = TimeGaps.DENIED;

    public static void main(String[] args) {
        calls();
        section1();
        section2();
        section3();
        section4();
        section5();
        section6();
        C.finish();
    }

    private static void calls() {
        C.part("an object is used for at most 512 calls");
        TimeGaps x = new TimeGaps();
        for (int call = 1; call <= 511; call++) {
            C.is("end", x.end(100 - call % 2), 99 + call % 2);
        }
        C.is("the last one", x.value(0), 99);
    }

    // ---- 1. events and gaps

    private static void section1() {
        tenEvents();
        lengthsOfNames();
        lettersOfNames();
        noTwoNamesTheSame();
        start();
        times();
        gaps24();
        numbersOfGaps();
        kindsOfGaps();
        pinOfTheStart();
    }

    private static void tenEvents() {
        C.part("1: there are up to 10 events, numbered from 0");
        TimeGaps x = new TimeGaps();
        C.is("event(1, 0) of one", x.event(1, 0), INVALID);
        for (int event = 1; event < 10; event++) {
            C.is("open", Check.open(x, "" + (char) ('a' + event)), event);
            C.is("event(event, 1)", x.event(event, 1), 100);
            C.is("event(event + 1, 1)", x.event(event + 1, 1), INVALID);
        }
        C.is("the eleventh", Check.open(x, "z"), FULL);
        C.is("value(1)", x.value(1), 10);
        C.is("event(10, 1)", x.event(10, 1), INVALID);
        C.is("event(-1, 1)", x.event(-1, 1), INVALID);
        C.is("tell(9, 8)", x.tell(9, 8, 0, 1), 0);
        C.is("tell(10, 8)", x.tell(10, 8, 0, 1), INVALID);
    }

    private static void lengthsOfNames() {
        C.part("1: a name has 1 to 5 letters");
        C.is("none", Check.open(new TimeGaps(), ""), INVALID);
        C.is("one", Check.open(new TimeGaps(), "a"), 1);
        C.is("five", Check.open(new TimeGaps(), "abcde"), 1);
        C.is("six", Check.open(new TimeGaps(), "abcdef"), INVALID);
        C.is("twenty", Check.open(new TimeGaps(), "abcdefghijklmnopqrst"), INVALID);
        TimeGaps x = Check.of("end 9;event q;");
        C.is("rename, none", x.rename(1), INVALID);
        C.is("rename, one", Check.rename(x, 1, "r"), 1);
        C.is("rename, five", Check.rename(x, 1, "abcde"), 5);
        C.is("rename, six", Check.rename(x, 1, "abcdeg"), INVALID);
    }

    private static void lettersOfNames() {
        C.part("1: letters a to z");
        C.is("a", Check.open(new TimeGaps(), "a"), 1);
        C.is("z", Check.open(new TimeGaps(), "z"), 1);
        char[] others = {'`', '{', 'A', 'Z', '@', '[', '0', '9', ' ', '\n', 0, 127, 128, 225, 250, 255};
        for (char other : others) {
            C.is("byte " + (int) other, Check.open(new TimeGaps(), "" + other), INVALID);
            C.is("behind, " + (int) other, Check.open(new TimeGaps(), "ab" + other), INVALID);
            C.is("ahead, " + (int) other, Check.open(new TimeGaps(), other + "ab"), INVALID);
        }
        TimeGaps x = Check.of("end 9;event az;event za;");
        C.is("letter(1, 0)", x.letter(1, 0), 1);
        C.is("letter(1, 1)", x.letter(1, 1), 26);
        C.is("letter(2, 0)", x.letter(2, 0), 26);
    }

    private static void noTwoNamesTheSame() {
        C.part("1: no two the same");
        TimeGaps x = Check.of("end 9;event abcde;event b;");
        C.is("the first one's", Check.open(x, "abcde"), INVALID);
        x.truncate(5);
        C.is("the last one's", Check.open(x, "b"), INVALID);
        x.truncate(1);
        C.is("the START's", Check.open(x, "start"), INVALID);
        x.truncate(5);
        C.is("another last letter", Check.open(x, "abcdf"), 3);
        C.is("another first letter", Check.open(x, "bbcde"), 4);
        C.is("a letter less", Check.open(x, "abcd"), 5);
        C.is("a letter more", Check.open(x, "ba"), 6);
        C.is("the START's less a letter", Check.open(x, "star"), 7);
        x.undo();
        C.is("one that was undone", Check.open(x, "star"), 7);
        Check.rename(x, 2, "q");
        C.is("one that is no name any more", Check.open(x, "b"), 8);
    }

    private static void start() {
        C.part("1: the event 0 is the START and has the name start; its time is 0");
        for (TimeGaps x : new TimeGaps[] {new TimeGaps(), Check.of("end 999;event a;gap start a least 9;")}) {
            C.isText("list", Check.list(x).substring(0, 8), "start 0\n");
            C.is("letter(0, 4)", x.letter(0, 4), 20);
            C.is("letter(0, 5)", x.letter(0, 5), NOT_FOUND);
            C.is("event(0, 0)", x.event(0, 0), 0);
            C.is("event(0, 1)", x.event(0, 1), 0);
            C.is("event(0, 2)", x.event(0, 2), 1);
            C.is("can(0, 0)", x.can(0, 0), 1);
            C.is("can(0, 1)", x.can(0, 1), 0);
            C.is("can(0, -1)", x.can(0, -1), 0);
        }
    }

    private static void times() {
        C.part("1: times are from 0 to END (1 to 999)");
        C.range("end", e -> new TimeGaps().end(e), 1, 999, 100, 100);
        C.is("load of END 0", Check.load(new TimeGaps(), "end 0;"), INVALID);
        C.is("load of END 1", Check.load(new TimeGaps(), "end 1;"), 0);
        C.is("load of END 999", Check.load(new TimeGaps(), "end 999;"), 0);
        C.is("load of END 1000", Check.load(new TimeGaps(), "end 1000;"), INVALID);
        for (int end : new int[] {1, 999}) {
            TimeGaps x = Check.of("end " + end + ";event a;");
            C.is("earliest", x.event(1, 0), 0);
            C.is("latest", x.event(1, 1), end);
            C.is("how many", x.event(1, 2), end + 1);
            C.is("can -1", x.can(1, -1), 0);
            C.is("can 0", x.can(1, 0), 1);
            C.is("can END", x.can(1, end), 1);
            C.is("can END + 1", x.can(1, end + 1), 0);
        }
    }

    private static void gaps24() {
        C.part("1: there are up to 24 gaps, numbered from 0");
        TimeGaps x = Check.of("end 9;event a;");
        C.is("gap(0, 3) of none", x.gap(0, 3), INVALID);
        for (int gap = 0; gap < 24; gap++) {
            C.is("tell", x.tell(0, 1, 0, gap + 9), gap);
            C.is("gap(gap, 3)", x.gap(gap, 3), gap + 9);
            C.is("gap(gap + 1, 3)", x.gap(gap + 1, 3), INVALID);
        }
        C.is("the 25th", x.tell(0, 1, 0, 9), FULL);
        C.is("value(2)", x.value(2), 24);
        C.is("gap(24, 3)", x.gap(24, 3), INVALID);
        C.is("gap(-1, 3)", x.gap(-1, 3), INVALID);
        C.is("set(24)", x.set(24, 9), INVALID);
        C.is("set(23)", x.set(23, 9), 32);
    }

    private static void numbersOfGaps() {
        C.part("1: a gap has two different events and a number N (0 to 999)");
        C.range("tell, N", n -> two().tell(1, 2, 0, n), 0, 999, 0, 0);
        C.range("set, N", n -> Check.of("end 9;event a;gap start a most 7;").set(0, n), 0, 999, 7, 7);
        C.is("load of N 0", Check.load(new TimeGaps(), "end 9;event a;gap start a most 0;"), 1);
        C.is("load of N 999", Check.load(new TimeGaps(), "end 9;event a;gap start a most 999;"), 1);
        C.is("load of N 1000", Check.load(new TimeGaps(), "end 9;event a;gap start a most 1000;"), INVALID);
        for (int event = 0; event < 3; event++) {
            C.is("twice " + event, two().tell(event, event, 0, 9), INVALID);
        }
        C.is("load of twice", Check.load(new TimeGaps(), "end 9;event a;gap a a most 9;"), INVALID);
    }

    private static TimeGaps two() {
        return Check.of("end 100;event a;event b;");
    }

    private static void kindsOfGaps() {
        C.part("1: the kind 0 tells at most N, the kind 1 at least N");
        for (int n : new int[] {0, 1, 5, 90}) {
            TimeGaps x = Check.of("end 100;event a;event b;pin a 10;");
            x.tell(1, 2, 0, n);
            C.is("at most " + n, x.can(2, 10 + n), 1);
            C.is("more", x.can(2, 11 + n), 0);
            C.is("earliest", x.event(2, 0), 0);
            x = Check.of("end 100;event a;event b;pin a 10;");
            x.tell(1, 2, 1, n);
            C.is("at least " + n, x.can(2, 10 + n), 1);
            C.is("less", x.can(2, 9 + n), 0);
            C.is("latest", x.event(2, 1), 100);
        }
        TimeGaps x = two();
        C.is("kind -1", x.tell(1, 2, -1, 5), INVALID);
        C.is("kind 2", x.tell(1, 2, 2, 5), INVALID);
    }

    private static void pinOfTheStart() {
        C.part("1: an event can be pinned (the START cannot)");
        TimeGaps x = two();
        C.is("pin(0, 0)", x.pin(0, 0), WRONG_STATE);
        C.is("event(0, 3)", x.event(0, 3), NOT_FOUND);
        C.is("pinAll", x.pinAll(), 2);
        C.is("event(0, 3)", x.event(0, 3), NOT_FOUND);
        C.is("value(4)", x.value(4), 2);
        C.is("load", Check.load(x, "end 9;pin start 0;"), INVALID);
    }

    // ---- 2. steps and bounds

    private static void section2() {
        numberOfSteps();
        ringsOfGaps();
        ringsByEnd();
        ringsByNought();
        ringsByPins();
        boundToItself();
        earliestAndLatest();
        fewestSteps();
        smallestSteps();
    }

    private static void numberOfSteps() {
        C.part("2: steps are made by each gap that is on, each event but the START, each pinned event");
        TimeGaps x = new TimeGaps();
        C.is("the START alone", x.value(5), 0);
        Check.open(x, "a");
        C.is("an event", x.value(5), 2);
        Check.open(x, "b");
        C.is("two events", x.value(5), 4);
        x.tell(1, 2, 1, 3);
        C.is("a gap", x.value(5), 5);
        x.turn(0);
        C.is("off", x.value(5), 4);
        x.pin(1, 0);
        C.is("a pin", x.value(5), 6);
        x.pinAll();
        C.is("two pins", x.value(5), 8);
    }

    private static void ringsOfGaps() {
        C.part("2: a ring denies if its sum is below 0: gaps alone");
        TimeGaps x = Check.of("end 40;event a;event b;event c;gap a b least 3;gap b c least 4;");
        C.is("two steps, -1", x.tell(1, 2, 0, 2), DENIED);
        C.is("two steps, 0", x.tell(1, 2, 0, 3), 2);
        C.is("three steps, -1", x.tell(1, 3, 0, 6), DENIED);
        C.is("three steps, 0", x.tell(1, 3, 0, 7), 3);
        C.is("least, -1", x.tell(1, 2, 1, 4), DENIED);
        C.is("least, 0", x.tell(1, 2, 1, 3), 4);
        C.is("back, -1", x.tell(2, 1, 1, 0), DENIED);
        C.is("back by most", x.tell(2, 1, 0, 0), 5);
    }

    private static void ringsByEnd() {
        C.part("2: a ring denies if its sum is below 0: by END");
        TimeGaps x = Check.of("end 40;event a;event b;");
        C.is("-1", x.tell(0, 1, 1, 41), DENIED);
        C.is("-1", x.tell(1, 2, 1, 41), DENIED);
        C.is("0", x.tell(1, 2, 1, 40), 0);
        C.is("-1", x.tell(0, 1, 1, 1), DENIED);
        C.is("0", x.tell(0, 1, 1, 0), 1);
        x.drop(0);
        C.is("0", x.tell(0, 1, 1, 40), 1);
    }

    private static void ringsByNought() {
        C.part("2: a ring denies if its sum is below 0: to the START by 0");
        TimeGaps x = Check.of("end 40;event a;event b;gap a b least 5;");
        C.is("-1", x.tell(1, 0, 1, 1), DENIED);
        C.is("0", x.tell(1, 0, 1, 0), 1);
        C.is("-1", x.tell(0, 2, 0, 4), DENIED);
        C.is("0", x.tell(0, 2, 0, 5), 2);
        C.is("the START behind, -1", x.tell(2, 0, 1, 0), DENIED);
    }

    private static void ringsByPins() {
        C.part("2: a ring denies if its sum is below 0: by pins");
        TimeGaps x = Check.of("end 40;event a;event b;pin a 7;pin b 11;");
        C.is("most, -1", x.tell(0, 1, 0, 6), DENIED);
        C.is("most, 0", x.tell(0, 1, 0, 7), 0);
        C.is("least, -1", x.tell(0, 1, 1, 8), DENIED);
        C.is("least, 0", x.tell(0, 1, 1, 7), 1);
        C.is("two pins, most, -1", x.tell(1, 2, 0, 3), DENIED);
        C.is("two pins, most, 0", x.tell(1, 2, 0, 4), 2);
        C.is("two pins, least, -1", x.tell(1, 2, 1, 5), DENIED);
        C.is("two pins, least, 0", x.tell(1, 2, 1, 4), 3);
        x = Check.of("end 40;event a;event b;gap a b least 5;gap a b most 8;pin a 10;");
        C.is("a pin, too early by 1", x.pin(2, 14), DENIED);
        C.is("a pin, too late by 1", x.pin(2, 19), DENIED);
        C.is("a pin, latest", x.pin(2, 18), 2);
        x.undo();
        C.is("a pin, earliest", x.pin(2, 15), 2);
    }

    private static void boundToItself() {
        C.part("2: the BOUND is 0 from an event to itself");
        TimeGaps x = Check.of("end 40;event a;event b;event c;gap a b most 0;gap b a most 0;gap b c least 3;pin c 5;");
        for (int event = 0; event < 4; event++) {
            C.is("bound", x.bound(event, event), 0);
        }
        C.is("no such event", x.bound(4, 4), TimeGaps.NO_BOUND);
        C.is("the START alone", new TimeGaps().bound(0, 0), 0);
    }

    private static void earliestAndLatest() {
        C.part("2: earliest and latest times are BOUNDs to and from the START");
        TimeGaps x = Check.of("end 40;event a;event b;gap a b least 6;gap a b most 9;pin b 20;");
        C.is("event(1, 0)", x.event(1, 0), 11);
        C.is("bound(1, 0)", x.bound(1, 0), -11);
        C.is("event(1, 1)", x.event(1, 1), 14);
        C.is("bound(0, 1)", x.bound(0, 1), 14);
        C.is("event(0, 0)", x.event(0, 0), 0);
        C.is("event(0, 1)", x.event(0, 1), 0);
    }

    private static void fewestSteps() {
        C.part("2: the WAY has the fewest steps");
        TimeGaps x = Check.of("end 40;event a;event b;event c;gap a b most 2;gap b c most 3;gap a c most 6;");
        C.are("less by two steps", Check.way(x, 1, 3), 0, 1);
        x.set(2, 5);
        C.are("as much by one step", Check.way(x, 1, 3), 2);
        x.set(2, 4);
        C.are("less by one step", Check.way(x, 1, 3), 2);
        x = Check.of("end 40;event a;event b;gap start a most 30;gap a b most 10;");
        C.are("as much by END", Check.way(x, 0, 2), 102);
        x.set(1, 9);
        C.are("less than END", Check.way(x, 0, 2), 0, 1);
    }

    private static void smallestSteps() {
        C.part("2: of several WAYs the one whose first step is the smallest, then the second, and so on");
        String events = "end 40;event a;event b;event c;event d;event e;";
        TimeGaps x = Check.of(events + "gap a b most 5;gap a b most 5;");
        C.are("alike, the first", Check.way(x, 1, 2), 0);
        x.turn(0);
        C.are("alike, the second", Check.way(x, 1, 2), 1);
        x = Check.of(events + "gap b d most 1;gap a c most 1;gap a b most 1;gap c d most 1;");
        C.are("the first step before the second", Check.way(x, 1, 4), 1, 3);
        x = Check.of(events + "gap a b most 1;gap c e most 1;gap b d most 1;gap b c most 1;gap d e most 1;");
        C.are("the second step before the third", Check.way(x, 1, 5), 0, 2, 4);
        x = Check.of(events + "gap start a most 40;gap a start most 0;");
        C.are("a gap before END", Check.way(x, 0, 1), 0);
        C.are("a gap before 0", Check.way(x, 1, 0), 1);
        x = Check.of(events + "pin a 40;pin b 0;");
        C.are("END before a pin", Check.way(x, 0, 1), 101);
        C.are("0 before a pin", Check.way(x, 2, 0), 202);
        C.are("a pin", Check.way(x, 0, 2), 302);
        C.are("a pin", Check.way(x, 1, 0), 401);
        C.are("0 and END", Check.way(x, 2, 1), 202, 101);
        C.are("two pins", Check.way(x, 1, 2), 401, 302);
    }

    // ---- 3. needs

    private static void section3() {
        tight();
        needed();
    }

    private static void tight() {
        C.part("3: a gap that is on is tight if its LENGTH is the BOUND");
        TimeGaps x = Check.of("end 40;event a;event b;gap a b most 40;gap a b least 0;");
        C.is("just the BOUND", x.gap(0, 5), 1);
        x.set(0, 41);
        C.is("greater by 1", x.gap(0, 5), 0);
        x.set(0, 39);
        C.is("less than END", x.gap(0, 5), 1);
        C.is("least 0", x.gap(1, 5), 1);
        x.turn(0);
        C.is("off", x.gap(0, 5), 0);
        C.is("none but one", x.value(6), 1);
    }

    private static void needed() {
        C.part("3: needed if the BOUND would be greater if the gap was off");
        TimeGaps x = Check.of("end 40;event a;event b;gap a b most 9;gap a b most 10;");
        C.is("greater by 1", x.gap(0, 6), 1);
        C.is("not tight", x.gap(1, 6), 0);
        x.set(1, 9);
        C.is("as great", x.gap(0, 6), 0);
        C.is("as great, the second", x.gap(1, 6), 0);
        C.is("tight though", x.gap(0, 5), 1);
        x.turn(1);
        C.is("the other one is off", x.gap(0, 6), 1);
        x.set(0, 40);
        C.is("as great by END", x.gap(0, 6), 0);
        x.set(0, 39);
        C.is("less than END by 1", x.gap(0, 6), 1);
        x.turn(0);
        C.is("off", x.gap(0, 6), 0);
    }

    // ---- 4. log

    private static void section4() {
        latestForty();
        kindsOfEntries();
    }

    private static void latestForty() {
        C.part("4: the log has the latest 40 entries");
        TimeGaps x = new TimeGaps();
        C.is("empty", x.value(11), 0);
        C.is("empty", x.log(0, 0), NOT_FOUND);
        for (int end = 1; end <= 39; end++) {
            x.end(end);
        }
        C.is("39", x.value(11), 39);
        C.is("39", x.log(39, 0), NOT_FOUND);
        x.end(40);
        C.is("40", x.value(11), 40);
        C.are("the oldest stays", Check.entry(x, 0), 7, 1, 100);
        C.are("the latest", Check.entry(x, 39), 7, 40, 39);
        x.end(41);
        C.is("41", x.value(11), 40);
        C.are("the oldest drops out", Check.entry(x, 0), 7, 2, 1);
        C.are("the latest", Check.entry(x, 39), 7, 41, 40);
        C.is("none behind", x.log(40, 0), NOT_FOUND);
        x.undo();
        C.is("undone", x.value(11), 40);
        C.are("the oldest comes back", Check.entry(x, 0), 7, 1, 100);
        for (int end = 41; end <= 121; end++) {
            x.end(end);
        }
        for (int i = 0; i < 40; i++) {
            C.are("entry " + i, Check.entry(x, i), 7, 82 + i, 81 + i);
        }
    }

    private static void kindsOfEntries() {
        C.part("4: entries have a kind and two numbers");
        TimeGaps x = new TimeGaps();
        C.are("0, the first event", after(x, Check.open(x, "abcde")), 0, 1, 2);
        for (int event = 2; event < 9; event++) {
            Check.open(x, "" + (char) ('a' + event));
        }
        C.are("0, the last event", after(x, Check.open(x, "z")), 0, 9, 10);
        C.are("1, the first gap, N 0", after(x, x.tell(1, 2, 0, 0)), 1, 0, 0);
        C.are("1, N 999", after(x, x.tell(1, 2, 0, 999)), 1, 1, 999);
        C.are("2, the last gap", after(x, x.drop(1)), 2, 1, 999);
        C.are("3, the former N", after(x, x.set(0, 999)), 3, 0, 0);
        C.are("3, the former N", after(x, x.set(0, 50)), 3, 0, 999);
        C.are("4, off", after(x, x.turn(0)), 4, 0, 0);
        C.are("4, on", after(x, x.turn(0)), 4, 0, 1);
        C.are("5, the time 0", after(x, x.pin(1, 0)), 5, 1, 0);
        C.are("5, the time END", after(x, x.pin(9, 100)), 5, 9, 100);
        C.are("6, the time 0", after(x, x.unpin(1)), 6, 1, 0);
        C.are("6, the time END", after(x, x.unpin(9)), 6, 9, 100);
        C.are("7, the greatest", after(x, x.end(999)), 7, 999, 100);
        C.are("7, the least", after(x, x.end(1)), 7, 1, 999);
        C.are("8, most", refused(x, x.tell(2, 1, 1, 2)), 8, 1, 2);
        C.are("8, least", refused(x, x.tell(0, 1, 1, 999)), 8, 1, 999);
        x.tell(0, 1, 1, 1);
        C.are("8, N 0", refused(x, x.tell(0, 1, 0, 0)), 8, 0, 0);
        C.are("9, one letter", after(x, Check.rename(x, 1, "q")), 9, 1, 1);
        C.are("9, five letters", after(x, Check.rename(x, 9, "vwxyz")), 9, 9, 5);
        C.are("10, on", after(x, x.reverse(0)), 10, 0, 1);
        x.turn(0);
        C.are("10, off", after(x, x.reverse(0)), 10, 0, 0);
        x.turn(0);
        // The gap of 50 is tight by END 1 from then on, and needless; all but the START and event 1 can be 0 or 1.
        C.are("11", after(x, x.tighten()), 11, 1, x.value(10));
        C.are("12", after(x, x.thin()), 12, 1, 1);
        x.pin(1, 1);
        C.are("13", after(x, x.pinAll()), 13, 8, 9);
    }

    private static int[] after(TimeGaps x, int answer) {
        C.is("not refused", answer >= 0 ? 1 : 0, 1);
        return Check.lastEntry(x);
    }

    private static int[] refused(TimeGaps x, int answer) {
        C.is("refused", answer, DENIED);
        return Check.lastEntry(x);
    }

    // ---- 5. setup text

    private static void section5() {
        whiteSpace();
        words();
        integers();
        otherTokens();
        positions();
        repeats();
        tokensThatCannotStand();
    }

    private static void good(String setup, int gaps) {
        TimeGaps x = new TimeGaps();
        C.is("load of " + setup, Check.load(x, setup), gaps);
        C.is("errorPosition of " + setup, x.errorPosition(), NOT_FOUND);
    }

    private static void error(String setup, int position) {
        TimeGaps x = new TimeGaps();
        C.is("load of " + setup, Check.load(x, setup), INVALID);
        C.is("errorPosition of " + setup, x.errorPosition(), position);
    }

    private static void whiteSpace() {
        C.part("5: white space (bytes 32 and 10) may stand ahead, between and behind");
        good("end 9;event a;gap start a most 3;pin a 0;", 1);
        good(" \nend 9;", 0);
        good("end 9; \n ", 0);
        good("end\n\n9 \n ;\nevent  a\n;", 0);
        good("end9;event a;gap start a most3off;pin a9;", 1);
        for (int other : new int[] {0, 9, 11, 12, 13, 31, 33, 95, 127, 128, 133, 160, 255}) {
            error((char) other + "end 9;", 0);
            error("end" + (char) other + "9;", 3);
            error("end 9" + (char) other + ";", 5);
            error("end 9;" + (char) other, 6);
        }
    }

    private static void words() {
        C.part("5: a word of 1 to 5 letters is a NAME, any keyword is none");
        good("end 9;event a;event zzzzz;", 0);
        error("end 9;event abcdef;", 12);
        error("end 9;event aaaaaaaaaaaaaaaaaaaa;", 12);
        error("end 9;event;", 11);
        error("end 9;event {;", 12);
        error("end 9;event `;", 12);
        error("end 9;event A;", 12);
        error("end 9;event a{;", 13);
        error("end 9;eventa;", 6);
        error("endevent 9;", 0);
        for (String word : new String[] {"end", "event", "gap", "most", "least", "off", "pin", "start"}) {
            error("end 9;event " + word + ";", 12);
            if (word.length() < 5) {
                good("end 9;event " + word + "s;", 0);
            }
            good("end 9;event " + word.substring(1) + ";", 0);
            good("end 9;event z" + word.substring(1) + ";", 0);
            good("end 9;event " + word.substring(0, word.length() - 1) + "z;", 0);
        }
        error("znd 9;", 0);
        error("enz 9;", 0);
        error("end 9;zvent a;", 6);
        error("end 9;evenz a;", 6);
        error("end 9;event a;zap start a most 3;", 14);
        error("end 9;event a;gap ztart a most 3;", 18);
        error("end 9;event a;gap start a zost 3;", 26);
        error("end 9;event a;gap start a zeast 3;", 26);
        error("end 9;event a;gap start a most 3 zff;", 33);
        error("end 9;event a;zin a 3;", 14);
        error("end 9;event a;gap start most most 3;", 24);
    }

    private static void integers() {
        C.part("5: an INT has 1 to 3 digits (perhaps with leading zeros)");
        good("end 1;", 0);
        good("end 01;", 0);
        good("end 001;", 0);
        error("end 0001;", 4);
        good("end 999;", 0);
        error("end 1000;", 4);
        error("end ;", 4);
        error("end 12345678901234567890;", 4);
        error("end /;", 4);
        error("end :;", 4);
        error("end 9/;", 5);
        error("end 9:;", 5);
        error("end 1 2;", 6);
        TimeGaps x = Check.of("end 090;event a;gap start a most 000;gap start a most 009;pin a 00;");
        C.isText("setup", Check.setup(x), "end 90;event a;gap start a most 0;gap start a most 9;pin a 0;");
        good("end 9;event a;gap start a most 999;", 1);
        error("end 9;event a;gap start a most 0999;", 31);
        error("end 9;event a;pin a 0000;", 20);
    }

    private static void otherTokens() {
        C.part("5: the semicolon is a token by itself; nothing else is a token");
        error("end 9:", 5);
        error("end 9<", 5);
        error("end 9;;", 6);
        error(";", 0);
        error("-", 0);
        error("end -9;", 4);
        error("end +9;", 4);
        error("end 9;event a;gap start a most 3.;", 32);
    }

    private static void positions() {
        C.part("5: the error position is that of the first byte; the length of the text if it ends too early");
        error("", 0);
        error(" ", 1);
        error("\n\n ", 3);
        error("x", 0);
        error("  x", 2);
        error("end", 3);
        error("end ", 4);
        error("end 9", 5);
        error("end 9 \n", 7);
        error("end 9;event", 11);
        error("end 9;event a", 13);
        error("end 9;event a;gap", 17);
        error("end 9;event a;gap a", 19);
        error("end 9;event a;gap a start", 25);
        error("end 9;event a;gap a start most", 30);
        error("end 9;event a;gap a start most 3", 32);
        error("end 9;event a;gap a start most 3 off ", 37);
        error("end 9;event a;pin", 17);
        error("end 9;event a;pin a", 19);
        error("end 9;event a;pin a 3", 21);
        good("end 9;event a;pin a 3;", 0);
        StringBuilder spaces = new StringBuilder("end 9");
        while (spaces.length() < 900) {
            spaces.append(' ');
        }
        error(spaces.toString(), 900);
        error(spaces.substring(0, 899) + "9", 899);
        good(spaces.substring(0, 899) + ";", 0);
    }

    private static void repeats() {
        C.part("5: events, gaps and pins stand in this order, each as often as none");
        good("end 9;", 0);
        good("end 9;event a;pin a 0;", 0);
        good("end 9;event a;gap a start most 3;", 1);
        error("end 9;gap a start most 3;", 10);
        error("end 9;pin a 3;", 10);
        error("end 9;event a;gap a start most 3;event b;", 33);
        error("end 9;event a;pin a 3;gap a start most 3;", 22);
        error("end 9;event a;pin a 3;event b;", 22);
        error("end 9;end 9;", 6);
        error("event a;", 0);
        good("end 9;event a;gap a start most 3 off;", 1);
        error("end 9;event a;gap a start most 3 off off;", 37);
        error("end 9;event a;gap a start off most 3;", 26);
    }

    private static void tokensThatCannotStand() {
        ends();
        namesThatAre();
        tenthEvent();
        gap25();
        eventsThatAreNot();
        pinsTwice();
        semicolons();
    }

    private static void ends() {
        C.part("5: an END out of range cannot stand");
        error("end 0;", 4);
        error("end 00;", 4);
        error("end 000;", 4);
        error("end 0", 4);
        error("end 0 x", 4);
        good("end 1;", 0);
        good("end 999;", 0);
    }

    private static void namesThatAre() {
        C.part("5: a NAME that an event has already cannot stand");
        error("end 9;event a;event a;", 20);
        error("end 9;event a;event b;event a", 28);
        error("end 9;event start;", 12);
        good("end 9;event a;event aa;event b;", 0);
    }

    private static void tenthEvent() {
        C.part("5: the keyword of a 10th event cannot stand");
        StringBuilder nine = new StringBuilder("end 9;");
        for (char name = 'a'; name <= 'i'; name++) {
            nine.append("event ").append(name).append(';');
        }
        good(nine.toString(), 0);
        good(nine + "gap a i most 3;pin i 9;", 1);
        error(nine + "event j;", nine.length());
        error(nine + " event a;", nine.length() + 1);
        error(nine + "event", nine.length());
        error(nine + "events", nine.length());
        error(nine.substring(0, nine.length() - 8) + "event", nine.length() - 3);
    }

    private static void gap25() {
        C.part("5: the keyword of a 25th gap cannot stand");
        StringBuilder gaps = new StringBuilder("end 9;event a;");
        for (int i = 0; i < 23; i++) {
            gaps.append("gap start a most 9;");
        }
        good(gaps.toString(), 23);
        gaps.append("gap a start least 0 off;");
        good(gaps.toString(), 24);
        good(gaps + "pin a 9;", 24);
        error(gaps + "gap start a most 9;", gaps.length());
        error(gaps + "gap", gaps.length());
        error(gaps + "\ngap x", gaps.length() + 1);
    }

    private static void eventsThatAreNot() {
        C.part("5: an EVENT that there is not, and the second EVENT of a gap if it is the first, cannot stand");
        error("end 9;event a;gap b a most 3;", 18);
        error("end 9;event a;gap a b most 3;", 20);
        error("end 9;event ab;gap a start most 3;", 19);
        error("end 9;event a;gap ab start most 3;", 18);
        error("end 9;event a;gap most start most 3;", 18);
        error("end 9;event a;gap abcdef start most 3;", 18);
        error("end 9;event a;gap 1 start most 3;", 18);
        error("end 9;event a;pin b 3;", 18);
        error("end 9;event a;pin 3;", 18);
        error("end 9;event a;gap a a most 3;", 20);
        error("end 9;event a;gap start start most 3;", 24);
        error("end 9;event a;event b;gap b b", 28);
        good("end 9;event a;gap start a most 3;gap a start most 3;", 2);
    }

    private static void pinsTwice() {
        C.part("5: \"start\" or an event that is pinned already cannot stand behind \"pin\"");
        error("end 9;event a;pin start 0;", 18);
        error("end 9;pin start 0;", 10);
        error("end 9;event a;event b;pin a 3;pin a 3;", 34);
        error("end 9;event a;event b;pin a 3;pin b 3;pin a 4;", 42);
        good("end 9;event a;event b;pin b 3;pin a 3;", 0);
    }

    private static void semicolons() {
        C.part("5: the semicolon of a gap or pin that would make a ring that denies cannot stand"
                + " (and the INT of a pin above END)");
        good("end 9;event a;gap start a least 9;", 1);
        error("end 9;event a;gap start a least 10;", 34);
        error("end 9;event a;gap start a least 10", 34);
        error("end 9;event a;gap start a least 10 ;", 35);
        good("end 9;event a;gap start a least 10 off;", 1);
        good("end 9;event a;gap start a least 999 off;gap start a least 9;", 2);
        good("end 9;event a;event b;gap a b least 4;gap a b most 4;", 2);
        error("end 9;event a;event b;gap a b least 4;gap a b most 3;", 52);
        error("end 9;event a;event b;gap a b least 4;gap a b most 3;gap", 52);
        good("end 9;event a;gap start a least 3;pin a 3;", 1);
        error("end 9;event a;gap start a least 3;pin a 2;", 41);
        error("end 9;event a;gap start a least 3;pin a 2", 41);
        good("end 9;event a;pin a 9;", 0);
        good("end 9;event a;pin a 0;", 0);
        error("end 9;event a;pin a 10;", 20);
        error("end 9;event a;pin a 10", 20);
        error("end 999;event a;pin a 1000;", 22);
        good("end 999;event a;pin a 999;", 0);
        good("end 9;event a;event b;gap a b most 1;pin a 3;pin b 4;", 1);
        error("end 9;event a;event b;gap a b most 1;pin a 3;pin b 5;", 52);
    }

    // ---- 6. calls

    private static void section6() {
        invalidComesFirst();
        othersInTheirOrder();
        operations();
        latestEight();
        whatOperationsChange();
        whatUndoLeaves();
    }

    private static void invalidComesFirst() {
        C.part("6: an invalid argument is checked before any other special result");
        TimeGaps x = Check.of("end 40;event a;event b;gap a b least 6;gap a b most 5 off;pin b 20;");
        C.is("set, so already", x.set(2, 6), INVALID);
        C.is("pin of the START", x.pin(0, 41), INVALID);
        C.is("pin of the START", x.pin(0, -1), INVALID);
        C.is("pin of a pinned one", x.pin(2, 41), INVALID);
        Check.tape(x, "A");
        C.is("rename of the START", x.rename(0), INVALID);
        x.truncate(1);
        C.is("rename of the START", x.rename(0), INVALID);
        C.is("restore of an empty slot", x.restore(2), INVALID);
        C.is("letter behind the name", x.letter(3, 9), INVALID);
        C.is("letter", x.letter(-1, 9), INVALID);
        C.is("way", x.way(1, 3, 99), INVALID);
        C.is("why, not denied", x.why(1, 2, 0, 9, 3), INVALID);
        C.is("why, not denied", x.why(1, 2, 0, 9, -1), INVALID);
        C.is("ring, not denied", x.ring(1, 2, 0, 9, -1), INVALID);
        C.is("ring, denied", x.ring(1, 2, 0, 5, -1), INVALID);
        C.is("ifTold, denied", x.ifTold(1, 2, 0, 5, 3), INVALID);
        C.is("ifTurned, denied", x.ifTurned(1, 3), INVALID);
        C.is("ifPinned of the START", x.ifPinned(0, 0, 3), INVALID);
        C.is("ifPinned of the START", x.ifPinned(0, 41, 0), INVALID);
        C.is("ifPinned of a pinned one", x.ifPinned(2, 20, -1), INVALID);
        C.is("ifPinned, denied", x.ifPinned(1, 40, 3), INVALID);
        C.is("log, not so many", x.log(99, 3), INVALID);
        C.is("log, not so many", x.log(99, -1), INVALID);
        x = Check.of("end 9;event a;event b;event c;event d;event e;event f;event g;event h;event i;");
        C.is("open of no NAME at 10", Check.open(x, "A"), INVALID);
        x.truncate(1);
        C.is("open of an event's name at 10", Check.open(x, "a"), INVALID);
        for (int i = 0; i < 24; i++) {
            x.tell(0, 1, 0, 9);
        }
        C.is("tell at 24, one", x.tell(10, 1, 0, 9), INVALID);
        C.is("tell at 24, other", x.tell(0, -1, 0, 9), INVALID);
        C.is("tell at 24, twice", x.tell(1, 1, 0, 9), INVALID);
        C.is("tell at 24, kind", x.tell(0, 1, 2, 9), INVALID);
        C.is("tell at 24, N", x.tell(0, 1, 0, 1000), INVALID);
        C.is("value(11)", x.value(11), 24);
    }

    private static void othersInTheirOrder() {
        C.part("6: then the special results come in the order in which a method names them");
        TimeGaps x = Check.of("end 40;event a;gap start a least 6;");
        for (int i = 1; i < 24; i++) {
            x.tell(0, 1, 0, 40);
        }
        C.is("tell, FULL before DENIED", x.tell(0, 1, 0, 5), FULL);
        C.is("no entry", x.value(11), 23);
        x.pin(1, 20);
        C.is("pin, WRONG_STATE before DENIED", x.pin(1, 5), WRONG_STATE);
        C.is("ifPinned, WRONG_STATE before DENIED", x.ifPinned(1, 5, 0), WRONG_STATE);
        C.is("ifPinned of the START", x.ifPinned(0, 5, 0), WRONG_STATE);
        C.is("pin of the START", x.pin(0, 5), WRONG_STATE);
        C.is("set, NOT_FOUND", x.set(0, 6), NOT_FOUND);
        C.is("end, NOT_FOUND", x.end(40), NOT_FOUND);
        C.is("end, DENIED", x.end(19), DENIED);
    }

    private static void operations() {
        C.part("6: operations are the calls that return 0 or more, and tell() that is DENIED");
        TimeGaps x = Check.of("end 40;event a;gap start a least 6;");
        x.keep(0);
        x.keep(1);
        C.is("keep() is none", x.value(12), 0);
        counts(x, Check.open(x, "b"), 2, 1);
        counts(x, x.tell(0, 2, 1, 50), DENIED, 2);
        counts(x, x.tell(0, 2, 1, 0), 1, 3);
        counts(x, x.drop(1), 1, 4);
        counts(x, x.set(0, 0), 6, 5);
        counts(x, x.turn(0), 0, 6);
        counts(x, x.pin(1, 0), 1, 7);
        counts(x, x.unpin(1), 0, 8);
        undoAll(x, 8);
        counts(x, x.end(41), 40, 1);
        counts(x, Check.rename(x, 1, "q"), 1, 2);
        counts(x, x.turn(0), 0, 3);
        counts(x, x.reverse(0), 0, 4);
        counts(x, x.tell(0, 1, 0, 50), 1, 5);
        counts(x, x.tighten(), 1, 6);
        counts(x, x.thin(), 1, 7);
        counts(x, x.pinAll(), 1, 8);
        undoAll(x, 8);
        counts(x, x.restore(0), 1, 1);
        counts(x, x.restore(1), 1, 2);
        undoAll(x, 2);
    }

    private static void counts(TimeGaps x, int answer, int due, int count) {
        C.is("answer of no. " + count, answer, due);
        C.is("value(12)", x.value(12), count);
    }

    private static void undoAll(TimeGaps x, int count) {
        for (int i = count - 1; i >= 0; i--) {
            C.is("undo", x.undo(), i);
        }
        C.is("undo of none", x.undo(), INVALID);
        C.isText("setup", Check.setup(x), "end 40;event a;gap start a least 6;");
        C.is("value(11)", x.value(11), 0);
    }

    private static void latestEight() {
        C.part("6: the latest 8 of them can be undone (one that was undone does not count any more)");
        TimeGaps x = new TimeGaps();
        C.is("none", x.undo(), INVALID);
        for (int end = 1; end <= 7; end++) {
            x.end(end);
        }
        C.is("seven", x.value(12), 7);
        x.end(8);
        C.is("eight", x.value(12), 8);
        for (int i = 7; i >= 0; i--) {
            C.is("undo", x.undo(), i);
        }
        C.is("the first one is undone", x.value(0), 100);
        C.is("none", x.undo(), INVALID);
        for (int end = 1; end <= 9; end++) {
            x.end(end);
        }
        C.is("nine", x.value(12), 8);
        C.is("undo", x.undo(), 7);
        C.is("value(12)", x.value(12), 7);
        x.end(50);
        C.is("value(12)", x.value(12), 8);
        for (int i = 7; i >= 0; i--) {
            C.is("undo", x.undo(), i);
        }
        C.is("the first one drops out", x.value(0), 1);
        C.is("none", x.undo(), INVALID);
        C.is("value(0)", x.value(0), 1);
    }

    private static void whatOperationsChange() {
        C.part("6: what operations change is events, gaps, pins, END and the log");
        TimeGaps x = Check.of("end 40;event a;event b;gap a b least 6;pin b 20;");
        x.keep(0);
        Check.open(x, "c");
        Check.rename(x, 1, "q");
        x.tell(3, 2, 0, 9);
        x.set(0, 3);
        x.turn(0);
        x.unpin(2);
        x.end(50);
        for (int i = 6; i >= 0; i--) {
            C.is("undo", x.undo(), i);
        }
        C.isText("setup", Check.setup(x), "end 40;event a;event b;gap a b least 6;pin b 20;");
        C.is("value(1)", x.value(1), 3);
        C.is("value(11)", x.value(11), 0);
        C.is("bound(2, 1)", x.bound(2, 1), -6);
    }

    private static void whatUndoLeaves() {
        C.part("6: undo() leaves the slots, the tape and the error position as they are");
        TimeGaps x = Check.of("end 40;event a;");
        x.end(41);
        x.keep(0);
        x.end(42);
        x.keep(1);
        Check.load(x, "end 9;x");
        Check.tape(x, "qr");
        C.is("undo", x.undo(), 1);
        C.is("undo", x.undo(), 0);
        C.is("errorPosition", x.errorPosition(), 6);
        C.is("tape", x.truncate(0), 2);
        C.is("open", x.open(), 2);
        C.is("letter(2, 1)", x.letter(2, 1), 18);
        C.is("undo", x.undo(), 0);
        C.is("the tape stays empty", x.truncate(0), 0);
        C.is("restore(0)", x.restore(0), 0);
        C.is("value(0)", x.value(0), 41);
        C.is("restore(1)", x.restore(1), 0);
        C.is("value(0)", x.value(0), 42);
    }
}
