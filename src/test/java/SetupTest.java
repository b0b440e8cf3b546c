/** Promises 1 to 5: a new object, the tape and the setup text. */
public final class SetupTest {
    private static final Check C = new Check("SetupTest");

    public static void main(String[] args) {
        newObject();
        append();
        truncate();
        loadGood();
        loadSpacesAndNumbers();
        loadReplaces();
        loadWrongKeeps();
        errorPosition();
        errorPositionOfTokens();
        errorPositionOfEnds();
        errorPositionOfEvents();
        errorPositionOfGaps();
        errorPositionOfRings();
        errorPositionOfPins();
        errorPositionOfTextsThatEnd();
        limitsOfSetup();
        keywordsAreNoNames();
        C.finish();
    }

    private static void newObject() {
        C.part("promise 1");
        TimeGaps x = new TimeGaps();
        C.isText("setup", Check.setup(x), "end 100;");
        C.isText("list", Check.list(x), "start 0\n");
        int[] due = {100, 1, 0, 0, 0, 0, 0, 0, 1, 0, 0, 0, 0};
        for (int what = 0; what < due.length; what++) {
            C.is("value(" + what + ")", x.value(what), due[what]);
        }
        C.is("truncate(1)", x.truncate(1), TimeGaps.INVALID);
        C.is("truncate(0)", x.truncate(0), 0);
        C.is("restore(0)", x.restore(0), TimeGaps.NOT_FOUND);
        C.is("restore(1)", x.restore(1), TimeGaps.NOT_FOUND);
        C.is("undo()", x.undo(), TimeGaps.INVALID);
        C.is("log(0, 0)", x.log(0, 0), TimeGaps.NOT_FOUND);
        C.is("errorPosition()", x.errorPosition(), TimeGaps.NOT_FOUND);
        C.is("event(0, 3)", x.event(0, 3), TimeGaps.NOT_FOUND);
    }

    private static void append() {
        C.part("promise 2");
        TimeGaps x = new TimeGaps();
        // "end " "123;" "even" "t a;" and four spaces: each byte has its place.
        C.is("append", x.append(0x656e6420, 0x3132333b, 0x6576656e, 0x7420613b, 0x20202020), 20);
        C.is("append", x.append(0x6576656e, 0x7420627a, 0x3b676170, 0x20612062, 0x7a206d6f), 40);
        C.is("append", x.append(0x73742037, 0x3b706969, 0x6e6e6e6e, 0x6e6e6e6e, 0x6e6e6e6e), 60);
        C.is("truncate", x.truncate(15), 45);
        C.is("load", x.load(), 1);
        C.isText("setup", Check.setup(x), "end 123;event a;event bz;gap a bz most 7;");
        for (int i = 1; i <= 45; i++) {
            C.is("append no. " + i, x.append(i, -i, Integer.MIN_VALUE, Integer.MAX_VALUE, 0), 20 * i);
        }
        C.is("append to 900", x.append(0, 0, 0, 0, 0), TimeGaps.INVALID);
        C.is("truncate(0)", x.truncate(0), 900);
        C.is("truncate(19)", x.truncate(19), 881);
        C.is("append to 881", x.append(0, 0, 0, 0, 0), TimeGaps.INVALID);
        C.is("truncate(1)", x.truncate(1), 880);
        C.is("append to 880", x.append(0, 0, 0, 0, 0), 900);
        // A refused append leaves the bytes alone, too.
        x = new TimeGaps();
        StringBuilder long881 = new StringBuilder("end 9;");
        while (long881.length() < 881) {
            long881.append(' ');
        }
        Check.tape(x, long881.toString());
        C.is("append to 881", x.append(0, 0, 0, 0, 0), TimeGaps.INVALID);
        C.is("load", x.load(), 0);
        // Bytes above 127 are bytes like others, not negative ones.
        Check.tape(x, "end 9;" + (char) 0xe5 + (char) 0xff);
        C.is("load", x.load(), TimeGaps.INVALID);
        C.is("errorPosition", x.errorPosition(), 6);
    }

    private static void truncate() {
        C.part("promise 3");
        TimeGaps x = new TimeGaps();
        Check.tape(x, "end 77;end 88;");
        C.is("truncate(-1)", x.truncate(-1), TimeGaps.INVALID);
        C.is("truncate(15)", x.truncate(15), TimeGaps.INVALID);
        C.is("truncate(min)", x.truncate(Integer.MIN_VALUE), TimeGaps.INVALID);
        C.is("truncate(max)", x.truncate(Integer.MAX_VALUE), TimeGaps.INVALID);
        C.is("truncate(0)", x.truncate(0), 14);
        C.is("truncate(7)", x.truncate(7), 7);
        C.is("load", x.load(), 0);
        C.is("value(0)", x.value(0), 77);
        Check.tape(x, "abc");
        C.is("truncate(3)", x.truncate(3), 0);
        C.is("truncate(1)", x.truncate(1), TimeGaps.INVALID);
    }

    private static void loadGood() {
        C.part("promise 4");
        TimeGaps x = new TimeGaps();
        C.is("load", Check.load(x, "end 50;event a;event bcdef;gap a bcdef least 3;gap start a most 9 off;"
                + "gap bcdef start least 0;pin bcdef 0;"), TimeGaps.INVALID);
        String setup = "end 50;event a;event bcdef;gap a bcdef least 3;gap start a most 9 off;"
                + "gap bcdef start most 0;pin bcdef 30;";
        C.is("load", Check.load(x, setup), 3);
        C.is("errorPosition", x.errorPosition(), TimeGaps.NOT_FOUND);
        C.isText("setup", Check.setup(x), setup);
        C.isText("list", Check.list(x), "start 0\na 0-27\nbcdef 30!\n");
        C.is("truncate(1)", x.truncate(1), TimeGaps.INVALID);
        C.is("gap(0, 2)", x.gap(0, 2), 1);
        C.is("gap(1, 4)", x.gap(1, 4), 0);
        C.is("gap(2, 0)", x.gap(2, 0), 2);
        C.is("gap(2, 1)", x.gap(2, 1), 0);
        C.is("load END alone", Check.load(x, "end 1;"), 0);
        C.isText("setup", Check.setup(x), "end 1;");
        C.is("load END 999", Check.load(x, "end 999;"), 0);
        C.is("value(0)", x.value(0), 999);
    }

    private static void loadSpacesAndNumbers() {
        C.part("promise 4, tokens");
        TimeGaps x = new TimeGaps();
        C.is("load", Check.load(x, "\n  end\n007 ;event\n\na\n; event b ; gap\na b  most 000\noff ;gap a b least 01;"
                + "pin a 03 ; \n"), 2);
        C.isText("setup", Check.setup(x), "end 7;event a;event b;gap a b most 0 off;gap a b least 1;pin a 3;");
        C.is("load", Check.load(x, "end9;eventa;"), TimeGaps.INVALID);
        C.is("errorPosition", x.errorPosition(), 5);
        C.is("load", Check.load(x, "end9;event a;event b;gap a b most8off;pin a9;"), 1);
        C.isText("setup", Check.setup(x), "end 9;event a;event b;gap a b most 8 off;pin a 9;");
    }

    private static void loadReplaces() {
        C.part("promise 4, all is replaced");
        TimeGaps x = Check.of("end 50;event a;event b;gap a b least 3;pin a 5;");
        x.keep(0);
        x.keep(1);
        x.end(60);
        x.tell(1, 2, 0, 9);
        C.is("value(11)", x.value(11), 2);
        C.is("value(12)", x.value(12), 2);
        C.is("load", Check.load(x, "end 20;event q;"), 0);
        C.isText("list", Check.list(x), "start 0\nq 0-20\n");
        C.is("value(4)", x.value(4), 0);
        C.is("value(11)", x.value(11), 0);
        C.is("value(12)", x.value(12), 0);
        C.is("undo", x.undo(), TimeGaps.INVALID);
        C.is("restore(0)", x.restore(0), TimeGaps.NOT_FOUND);
        C.is("restore(1)", x.restore(1), TimeGaps.NOT_FOUND);
        C.is("log", x.log(0, 0), TimeGaps.NOT_FOUND);
    }

    private static void loadWrongKeeps() {
        C.part("promise 4, an error");
        TimeGaps x = Check.of("end 50;event a;event b;gap a b least 3;pin a 5;");
        x.end(60);
        x.keep(1);
        x.tell(1, 2, 0, 9);
        String before = Check.setup(x);
        C.is("load", Check.load(x, "end 20;event q;event z;gap q z most 5;gap q z least 6;"), TimeGaps.INVALID);
        C.is("truncate(0)", x.truncate(0), 0);
        C.isText("setup", Check.setup(x), before);
        C.is("value(11)", x.value(11), 2);
        C.is("value(12)", x.value(12), 2);
        C.is("bound(1, 2)", x.bound(1, 2), 9);
        C.is("way(1, 2, 0)", x.way(1, 2, 0), 1);
        C.is("restore(1)", x.restore(1), 1);
        C.is("restore(0)", x.restore(0), TimeGaps.NOT_FOUND);
        C.is("undo", x.undo(), 2);
        C.is("undo", x.undo(), 1);
        C.isText("setup", Check.setup(x), "end 60;event a;event b;gap a b least 3;pin a 5;");
    }

    private static void error(String setup, int position) {
        TimeGaps x = new TimeGaps();
        C.is("load of " + setup, Check.load(x, setup), TimeGaps.INVALID);
        C.is("errorPosition of " + setup, x.errorPosition(), position);
    }

    private static void errorPosition() {
        C.part("promise 5");
        TimeGaps x = new TimeGaps();
        C.is("none yet", x.errorPosition(), TimeGaps.NOT_FOUND);
        Check.load(x, "end 5;evnt");
        C.is("error", x.errorPosition(), 6);
        x.end(7);
        x.keep(0);
        x.restore(0);
        x.undo();
        Check.tape(x, "end 5;");
        C.is("error still", x.errorPosition(), 6);
        x.load();
        C.is("good", x.errorPosition(), TimeGaps.NOT_FOUND);
        C.is("load of nothing", x.load(), TimeGaps.INVALID);
        C.is("error at once", x.errorPosition(), 0);
    }

    private static void errorPositionOfTokens() {
        C.part("promise 5, tokens");
        error("", 0);
        error("  \n ", 4);
        error("End 5;", 0);
        error("ends 5;", 0);
        error("en", 0);
        error("end 5;\tevent a;", 6);
        error("end 5;\revent a;", 6);
        error("end 5:", 5);
        error("end 5;;", 6);
        error("end 5;event abcdef;", 12);
        error("end 5;event aB;", 13);
        error("end 5;event a1;", 13);
        error("end 5;eventa;", 6);
        error("end 5;event \u00e9;", 12);
        error("end 5; event", 12);
        error("end 5; event \n", 14);
        error("end 5; event a \n", 16);
        error("end 5;a", 6);
        error("end 5;5", 6);
        error("end 5;off;", 6);
        error("end 5;event a;event b;gap a b most 3 on;", 37);
        error("end 5;event a;event b;gap a b most 3 off off;", 41);
        error("end 5;event a;event b;gap a b atmost 3;", 30);
        error("end 5;event a;event b;gap a b 3;", 30);
        error("end 5;event a;event b;gap a b most;", 34);
    }

    private static void errorPositionOfEnds() {
        C.part("promise 5, END");
        error("end", 3);
        error("end ;", 4);
        error("end 0;", 4);
        error("end 000;", 4);
        error("end 1000;", 4);
        error("end 0001;", 4);
        error("end x;", 4);
        error("end -1;", 4);
        error("end 5", 5);
        error("end 5 ", 6);
        error("end 5 event a;", 6);
        error("end 5 5;", 6);
        error("event a;end 5;", 0);
        error("end 5;end 6;", 6);
    }

    private static void errorPositionOfEvents() {
        C.part("promise 5, events");
        error("end 5;event ;", 12);
        error("end 5;event 5;", 12);
        error("end 5;event start;", 12);
        error("end 5;event a;event a;", 20);
        error("end 5;event ab;event abc;event ab;", 31);
        error("end 5;event a b;", 14);
        error("end 5;event a,", 13);
        error("end 5;event a;event b;gap a b most 5;event c;", 37);
        error("end 5;event a;pin a 3;event c;", 22);
        error("end 5;event a;pin a 3;gap a start most 5;", 22);
    }

    private static void errorPositionOfGaps() {
        C.part("promise 5, gaps");
        error("end 5;event a;gap b a most 3;", 18);
        error("end 5;event a;gap a b most 3;", 20);
        error("end 5;event a;gap a a most 3;", 20);
        error("end 5;event a;gap start start most 3;", 24);
        error("end 5;event a;gap end a most 3;", 18);
        error("end 5;event a;gap a most 3;", 20);
        error("end 5;event a;gap 0 a most 3;", 18);
        error("end 5;event a;gap start a most 1000;", 31);
        error("end 5;event a;gap start a most -3;", 31);
        error("end 5;event a;gap start a most 3", 32);
        error("end 5;event a;gap start a most 3 off", 36);
        error("end 5;event a;gap start a off most 3;", 26);
        error("end 5;event a;gap start a least off 3;", 32);
        error("end 5;event ab;gap start a least 3;", 25);
        error("end 5;event a;gap start ab least 3;", 24);
    }

    private static void errorPositionOfRings() {
        C.part("promise 5, rings");
        error("end 5;event a;gap start a least 6;", 33);
        error("end 5;event a;gap start a least 6 ;", 34);
        error("end 5;event a;gap start a least 6", 33);
        error("end 5;event a;gap start a least 6 pin", 34);
        error("end 5;event a;gap a start least 1;", 33);
        error("end 9;event a;event b;event c;gap a b least 3;gap b c least 3;gap c a least 0;", 77);
        error("end 9;event a;event b;gap a b most 3;gap a b least 4;", 52);
        TimeGaps x = new TimeGaps();
        C.is("off", Check.load(x, "end 5;event a;gap start a least 6 off;gap start a least 5;gap a start least 0 off;"), 3);
        C.is("a ring of nought", Check.load(x, "end 9;event a;event b;gap a b most 3;gap a b least 3;"), 2);
    }

    private static void errorPositionOfPins() {
        C.part("promise 5, pins");
        error("end 5;event a;pin start 0;", 18);
        error("end 5;event a;pin b 0;", 18);
        error("end 5;event a;pin ;", 18);
        error("end 5;event a;pin a;", 19);
        error("end 5;event a;pin a 6;", 20);
        error("end 5;event a;pin a 0006;", 20);
        error("end 5;event a;pin a 5", 21);
        error("end 5;event a;pin a 5 off;", 22);
        error("end 5;event a;pin a 5;pin a 5;", 26);
        error("end 5;event a;gap start a least 3;pin a 2;", 41);
        error("end 5;event a;gap start a most 3;pin a 4;", 40);
        error("end 5;event a;event b;gap a b most 1;pin a 3;pin b 5;", 52);
        error("end 5;event a;event b;gap b a least 1;pin b 2;pin a 2 ;", 54);
        TimeGaps x = new TimeGaps();
        C.is("good", Check.load(x, "end 5;event a;event b;gap a b most 1;pin b 5;pin a 4;"), 1);
    }

    private static void errorPositionOfTextsThatEnd() {
        C.part("promise 5, texts that end too early");
        String[] tokens = "end 9 ; event a ; event b ; gap a b most 5 ; gap start b least 2 off ; pin a 9 ; pin b 9 ;"
                .split(" ");
        StringBuilder text = new StringBuilder();
        for (String token : tokens) {
            if (text.length() == 0 || text.charAt(text.length() - 1) != ';') {
                error(text.toString(), text.length());
                error(text + " \n", text.length() + 2);
            }
            text.append(text.length() == 0 ? "" : " ").append(token);
        }
        C.is("the whole", Check.load(new TimeGaps(), text.toString()), 2);
    }

    private static void limitsOfSetup() {
        C.part("promise 5, limits");
        StringBuilder nine = new StringBuilder("end 5;");
        for (char name = 'a'; name < 'j'; name++) {
            nine.append("event ").append(name).append(';');
        }
        TimeGaps x = new TimeGaps();
        C.is("nine events", Check.load(x, nine.toString()), 0);
        C.is("value(1)", x.value(1), 10);
        error(nine + "event j;", nine.length());
        error(nine + " event", nine.length() + 1);
        error(nine + "event", nine.length());
        StringBuilder gaps = new StringBuilder("end 5;event a;");
        for (int i = 0; i < 24; i++) {
            gaps.append("gap start a most ").append(i).append(i % 2 == 0 ? ";" : " off;");
        }
        C.is("24 gaps", Check.load(x, gaps.toString()), 24);
        C.is("value(3)", x.value(3), 12);
        error(gaps + "gap start a most 9;", gaps.length());
        error(gaps + "gap", gaps.length());
        C.is("24 gaps and a pin", Check.load(x, gaps + "pin a 0;"), 24);
        C.is("value(4)", x.value(4), 1);
    }

    private static void keywordsAreNoNames() {
        C.part("promises 4 and 5, keywords");
        for (String word : new String[] {"end", "event", "gap", "start", "most", "least", "off", "pin"}) {
            error("end 5;event " + word + ";", 12);
        }
        error("fnd 5;", 0);
        error("end 5;avent a;", 6);
        error("end 5;event a;map start a most 3;", 14);
        error("end 5;event a;bin a 3;", 14);
        error("end 5;event a;gap start a post 3;", 26);
        error("end 5;event a;gap start a beast 3;", 26);
        error("end 5;event a;gap start a most 3 iff;", 33);
        error("end 5;event a;gap smart a most 3;", 18);
        TimeGaps x = new TimeGaps();
        C.is("names near keywords", Check.load(x, "end 5;event fnd;event avent;event map;event smart;event post;"
                + "event beast;event iff;event bin;event even;gap fnd map most 3;"), 1);
        x = new TimeGaps();
        C.is("names near keywords", Check.load(x, "end 5;event ends;event even;event ga;event star;event mos;"
                + "event leas;event of;event pins;event z;gap ends even most 3;"), 1);
    }
}
