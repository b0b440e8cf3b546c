/** Counts answers that are not as due, and helps with tapes and texts. */
final class Check {
    private final String name;
    private int calls;
    private int wrong;
    private String part = "";

    Check(String name) {
        this.name = name;
    }

    void part(String part) {
        this.part = part;
    }

    void is(String call, long got, long due) {
        calls++;
        if (got != due) {
            wrong++;
            System.out.println(name + ", " + part + ": " + call + " answered " + got + ", due is " + due);
        }
    }

    void isReal(String call, double got, double due) {
        calls++;
        if (got != due) {
            wrong++;
            System.out.println(name + ", " + part + ": " + call + " answered " + got + ", due is " + due);
        }
    }

    void isText(String call, String got, String due) {
        calls++;
        if (!got.equals(due)) {
            wrong++;
            System.out.println(name + ", " + part + ": " + call + " answered \"" + got + "\", due is \"" + due + "\"");
        }
    }

    /** Compares answers one by one with those that are due. */
    void are(String call, int[] got, int... due) {
        is(call + " (how many)", got.length, due.length);
        for (int i = 0; i < got.length && i < due.length; i++) {
            is(call + "[" + i + "]", got[i], due[i]);
        }
    }

    void finish() {
        System.out.println(name + ": " + calls + " answers, " + wrong + " wrong");
        if (wrong != 0 || calls == 0) {
            System.exit(1);
        }
    }

    /** Puts the text behind what is on the tape. */
    static void tape(TimeGaps x, String text) {
        int padded = (text.length() + 19) / 20 * 20;
        int[] words = new int[padded / 4];
        for (int i = 0; i < padded; i++) {
            int b = i < text.length() ? text.charAt(i) : ' ';
            words[i / 4] = words[i / 4] << 8 | b;
        }
        for (int i = 0; i < words.length; i += 5) {
            x.append(words[i], words[i + 1], words[i + 2], words[i + 3], words[i + 4]);
        }
        x.truncate(padded - text.length());
    }

    static int load(TimeGaps x, String text) {
        tape(x, text);
        return x.load();
    }

    static TimeGaps of(String setup) {
        TimeGaps x = new TimeGaps();
        if (load(x, setup) < 0) {
            throw new IllegalArgumentException("no setup: " + setup + " (" + x.errorPosition() + ")");
        }
        return x;
    }

    static int open(TimeGaps x, String word) {
        tape(x, word);
        return x.open();
    }

    static int rename(TimeGaps x, int event, String word) {
        tape(x, word);
        return x.rename(event);
    }

    static String list(TimeGaps x) {
        StringBuilder text = new StringBuilder();
        int length = x.listLength();
        for (int i = 0; i < length; i++) {
            text.append((char) x.listByte(i));
        }
        return text.toString();
    }

    static String setup(TimeGaps x) {
        StringBuilder text = new StringBuilder();
        int length = x.setupLength();
        for (int i = 0; i < length; i++) {
            text.append((char) x.setupByte(i));
        }
        return text.toString();
    }

    /** The steps of a way, up to the first answer below 0. */
    static int[] way(TimeGaps x, int one, int other) {
        int[] steps = new int[12];
        int count = 0;
        for (int i = 0; i < steps.length && x.way(one, other, i) >= 0; i++) {
            steps[count++] = x.way(one, other, i);
        }
        return java.util.Arrays.copyOf(steps, count);
    }

    /** The three parts of an entry of the log. */
    static int[] entry(TimeGaps x, int i) {
        return new int[] {x.log(i, 0), x.log(i, 1), x.log(i, 2)};
    }

    static int[] lastEntry(TimeGaps x) {
        return entry(x, x.value(11) - 1);
    }
}
