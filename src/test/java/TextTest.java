/** Promises 55 to 58: the list and the setup text. */
public final class TextTest {
    private static final Check C = new Check("TextTest");

    public static void main(String[] args) {
        list();
        listBytes();
        setup();
        setupBytes();
        longest();
        C.finish();
    }

    private static void list() {
        C.part("promise 55");
        TimeGaps x = Check.of("end 999;event a;event bcdef;event gh;event i;event jk;gap start a least 7;"
                + "gap start a most 7;gap bcdef gh least 100;pin jk 105;");
        String due = "start 0\na 7\nbcdef 0-899\ngh 100-999\ni 0-999\njk 105!\n";
        C.isText("list", Check.list(x), due);
        C.is("listLength", x.listLength(), due.length());
        x.pin(2, 10);
        C.isText("list", Check.list(x), "start 0\na 7\nbcdef 10!\ngh 110-999\ni 0-999\njk 105!\n");
        x.unpin(2);
        x.unpin(5);
        x.end(110);
        C.isText("list", Check.list(x), "start 0\na 7\nbcdef 0-10\ngh 100-110\ni 0-110\njk 0-110\n");
        Check.rename(x, 2, "z");
        C.isText("list", Check.list(x), "start 0\na 7\nz 0-10\ngh 100-110\ni 0-110\njk 0-110\n");
        C.is("listLength", x.listLength(), 8 + 4 + 7 + 11 + 8 + 9);
        C.is("START alone", new TimeGaps().listLength(), 8);
    }

    private static void listBytes() {
        C.part("promise 56");
        TimeGaps x = Check.of("end 20;event ab;event c;pin c 7;");
        String due = "start 0\nab 0-20\nc 7!\n";
        for (int i = 0; i < due.length(); i++) {
            C.is("listByte(" + i + ")", x.listByte(i), due.charAt(i));
        }
        C.is("behind", x.listByte(due.length()), TimeGaps.NOT_FOUND);
        C.is("far behind", x.listByte(Integer.MAX_VALUE), TimeGaps.NOT_FOUND);
        C.is("ahead", x.listByte(-1), TimeGaps.INVALID);
        C.is("far ahead", x.listByte(Integer.MIN_VALUE), TimeGaps.INVALID);
        // The setup text is longer; the list does not show it.
        x.setupLength();
        C.is("behind", x.listByte(due.length()), TimeGaps.NOT_FOUND);
    }

    private static void setup() {
        C.part("promise 57");
        TimeGaps x = new TimeGaps();
        C.is("setupLength", x.setupLength(), 8);
        String due = "end 7;event a;event bcdef;gap a bcdef most 10;gap bcdef start least 0;"
                + "gap start a least 5 off;gap a start most 999 off;pin a 3;pin bcdef 0;";
        C.is("load", Check.load(x, "end 007; event a;event bcdef ;gap a bcdef most 010;gap bcdef start least 000 ;"
                + "gap start a least 05 off;gap a start most 999 off ;pin bcdef 0;pin a 03;"), 4);
        C.isText("setup", Check.setup(x), due);
        C.is("setupLength", x.setupLength(), due.length());
        C.is("load", Check.load(new TimeGaps(), due), 4);
        x.unpin(1);
        x.drop(0);
        x.turn(0);
        x.set(1, 100);
        x.set(2, 99);
        x.reverse(1);
        x.end(999);
        C.isText("setup", Check.setup(x), "end 999;event a;event bcdef;gap bcdef start least 0 off;"
                + "gap a start least 100 off;gap a start most 99 off;pin bcdef 0;");
    }

    private static void setupBytes() {
        C.part("promise 58");
        TimeGaps x = Check.of("end 20;event ab;event c;gap ab c most 12 off;gap c ab least 0;pin c 7;");
        String due = "end 20;event ab;event c;gap ab c most 12 off;gap c ab least 0;pin c 7;";
        for (int i = 0; i < due.length(); i++) {
            C.is("setupByte(" + i + ")", x.setupByte(i), due.charAt(i));
        }
        C.is("behind", x.setupByte(due.length()), TimeGaps.NOT_FOUND);
        C.is("far behind", x.setupByte(Integer.MAX_VALUE), TimeGaps.NOT_FOUND);
        C.is("ahead", x.setupByte(-1), TimeGaps.INVALID);
        C.is("far ahead", x.setupByte(Integer.MIN_VALUE), TimeGaps.INVALID);
    }

    private static void longest() {
        C.part("promises 55 to 58, the longest texts");
        TimeGaps x = new TimeGaps();
        x.end(999);
        StringBuilder setup = new StringBuilder("end 999;");
        StringBuilder list = new StringBuilder("start 0\n");
        for (int i = 1; i < 10; i++) {
            String name = "abcd" + (char) ('d' + i);
            Check.open(x, name);
            setup.append("event ").append(name).append(';');
            list.append(name).append(" 100!\n");
        }
        for (int gap = 0; gap < 24; gap++) {
            x.tell(1, 2, 1, 100);
            x.turn(gap);
            setup.append("gap abcde abcdf least 100 off;");
        }
        for (int i = 1; i < 10; i++) {
            x.pin(i, 100);
            setup.append("pin abcd").append((char) ('d' + i)).append(" 100;");
        }
        C.is("setupLength", x.setupLength(), 962);
        C.is("setupLength", x.setupLength(), setup.length());
        for (int i = 800; i < 962; i++) {
            C.is("setupByte(" + i + ")", x.setupByte(i), setup.charAt(i));
        }
        C.is("setupByte(962)", x.setupByte(962), TimeGaps.NOT_FOUND);
        C.isText("list", Check.list(x), list.toString());
    }
}
