/** Counts answers that are not as due, and helps with tapes and texts. */
final class Check {
    /** A call with all arguments but one given. */
    interface By {
        int at(int argument);
    }

    private final String name;
    private int calls;
    private int wrong;
    private String part = "";

    Check(String name) {
        this.name = name;
    }

    void part(String part) {
        this.part = part;
    }

    void is(String call, long got, long due) {
        calls++;
        if (got != due) {
            wrong++;
            System.out.println(name + ", " + part + ": " + call + " answered " + got + ", due is " + due);
        }
    }

    void isReal(String call, double got, double due) {
        calls++;
        if (got != due) {
            wrong++;
            System.out.println(name + ", " + part + ": " + call + " answered " + got + ", due is " + due);
        }
    }

    void isText(String call, String got, String due) {
        calls++;
        if (!got.equals(due)) {
            wrong++;
            System.out.println(name + ", " + part + ": " + call + " answered \"" + got + "\", due is \"" + due + "\"");
        }
    }

    /** Compares answers one by one with those that are due. */
    void are(String call, int[] got, int... due) {
        is(call + " (how many)", got.length, due.length);
        for (int i = 0; i < got.length && i < due.length; i++) {
            is(call + "[" + i + "]", got[i], due[i]);
        }
    }

    /** An argument from first to last: both ends answer as due, all beyond them INVALID. */
    void range(String call, By by, int first, int last, int dueFirst, int dueLast) {
        beyond(call, by, first, last, TimeGaps.INVALID);
        is(call + ", first " + first, by.at(first), dueFirst);
        is(call + ", last " + last, by.at(last), dueLast);
    }

    void beyond(String call, By by, int first, int last, int code) {
        is(call + ", below " + first, by.at(first - 1), code);
        is(call + ", above " + last, by.at(last + 1), code);
        is(call + ", least int", by.at(Integer.MIN_VALUE), code);
        is(call + ", greatest int", by.at(Integer.MAX_VALUE), code);
    }

    /** An index from 0: the last one answers as due, those behind NOT_FOUND, those below 0 INVALID. */
    void index(String call, By by, int count, int dueLast) {
        is(call + ", -1", by.at(-1), TimeGaps.INVALID);
        is(call + ", least int", by.at(Integer.MIN_VALUE), TimeGaps.INVALID);
        is(call + ", last " + (count - 1), by.at(count - 1), dueLast);
        is(call + ", behind " + count, by.at(count), TimeGaps.NOT_FOUND);
        is(call + ", greatest int", by.at(Integer.MAX_VALUE), TimeGaps.NOT_FOUND);
    }

    /** Two different events of four: any other ones, and twice the same, are INVALID. */
    void pair(String call, java.util.function.IntBinaryOperator of) {
        By one = e -> of.applyAsInt(e, 1);
        By other = e -> of.applyAsInt(1, e);
        beyond(call + ", one", one, 0, 3, TimeGaps.INVALID);
        beyond(call + ", other", other, 0, 3, TimeGaps.INVALID);
        for (int e = 0; e < 4; e++) {
            is(call + ", twice " + e, of.applyAsInt(e, e), TimeGaps.INVALID);
            is(call + ", good ones", of.applyAsInt(e, (e + 1) % 4) != TimeGaps.INVALID ? 1 : 0, 1);
        }
    }

    void finish() {
        System.out.println(name + ": " + calls + " answers, " + wrong + " wrong");
        if (wrong != 0 || calls == 0) {
            System.exit(1);
        }
    }

    /** Puts the text behind what is on the tape. */
    static void tape(TimeGaps x, String text) {
        int padded = (text.length() + 19) / 20 * 20;
        int[] words = new int[padded / 4];
        for (int i = 0; i < padded; i++) {
            int b = i < text.length() ? text.charAt(i) : ' ';
            words[i / 4] = words[i / 4] << 8 | b;
        }
        for (int i = 0; i < words.length; i += 5) {
            x.append(words[i], words[i + 1], words[i + 2], words[i + 3], words[i + 4]);
        }
        x.truncate(padded - text.length());
    }

    static int load(TimeGaps x, String text) {
        tape(x, text);
        return x.load();
    }

    static TimeGaps of(String setup) {
        TimeGaps x = new TimeGaps();
        if (load(x, setup) < 0) {
            throw new IllegalArgumentException("no setup: " + setup + " (" + x.errorPosition() + ")");
        }
        return x;
    }

    static int open(TimeGaps x, String word) {
        tape(x, word);
        return x.open();
    }

    static int rename(TimeGaps x, int event, String word) {
        tape(x, word);
        return x.rename(event);
    }

    static String list(TimeGaps x) {
        StringBuilder text = new StringBuilder();
        int length = x.listLength();
        for (int i = 0; i < length; i++) {
            text.append((char) x.listByte(i));
        }
        return text.toString();
    }

    static String setup(TimeGaps x) {
        StringBuilder text = new StringBuilder();
        int length = x.setupLength();
        for (int i = 0; i < length; i++) {
            text.append((char) x.setupByte(i));
        }
        return text.toString();
    }

    /** The steps of a way, up to the first answer below 0. */
    static int[] way(TimeGaps x, int one, int other) {
        int[] steps = new int[12];
        int count = 0;
        for (int i = 0; i < steps.length && x.way(one, other, i) >= 0; i++) {
            steps[count++] = x.way(one, other, i);
        }
        return java.util.Arrays.copyOf(steps, count);
    }

    /** The three parts of an entry of the log. */
    static int[] entry(TimeGaps x, int i) {
        return new int[] {x.log(i, 0), x.log(i, 1), x.log(i, 2)};
    }

    static int[] lastEntry(TimeGaps x) {
        return entry(x, x.value(11) - 1);
    }
}
