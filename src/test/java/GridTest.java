import java.lang.reflect.Method;
import java.util.ArrayList;
import java.util.Arrays;
import java.util.HashMap;
import java.util.List;
import java.util.Map;
import java.util.TreeSet;

/**
 * Each call with the edges of all its arguments in all combinations, in states from empty to full,
 * held against the slow Model; behind each operation the state, too, and what undo() makes of it.
 */
public final class GridTest {
    // A letter for each argument: e event, o another event, g gap, k kind, n number, t time,
    // E END, s slot, i index, b index of a byte, c bytes to truncate; a digit: from 0 to that digit, v: to 12.
    private static final String[] OPERATIONS = {
        "open ", "rename e", "tell eokn", "drop g", "set gn", "turn g", "pin et", "unpin e", "end E", "reverse g",
        "tighten ", "thin ", "pinAll ", "keep s", "restore s", "undo ", "truncate c", "load "};
    private static final String[] QUESTIONS = {
        "errorPosition ", "value v", "letter ei", "gap g7", "event e4", "bound eo", "way eoi", "wayLength eo",
        "relation eo", "play eo", "pairs 5", "direct eo", "ordered i", "middle e", "lastly i", "can et", "widest ",
        "freest ", "why eokn2", "ring eokni", "culprit eokn", "tightest eok", "spare g", "needless ", "needs e",
        "ifTold eokn2", "ifDropped g2", "ifTurned g2", "ifPinned et2", "leastEnd ", "slowest ", "log i2",
        "tightShare ", "meanRoom ", "listLength ", "listByte b", "setupLength ", "setupByte b"};
    private static final String BASE = "end 40;event a;event b;event c;gap start a least 4;gap a b least 6;"
            + "gap b c most 8;gap c a most 2 off;gap a b least 3;gap a b most 5 off;";
    private static final int CALLS_OF_AN_OBJECT = 400;

    private final Map<String, Method> real = methods(TimeGaps.class);
    private final Map<String, Method> plain = methods(Model.class);
    private final String name;
    private final String[] recipe;
    private TimeGaps x;
    private Model m;
    private int callsOfX;
    private int calls;
    private int wrong;

    private GridTest(String name, String... recipe) {
        this.name = name;
        this.recipe = recipe;
    }

    public static void main(String[] args) {
        GridTest[] grids = {
            new GridTest("a new object"),
            new GridTest("a name on the tape", "tape qr"),
            new GridTest("a setup on the tape", "load " + BASE, "end 50", "keep 1", "tape end 9;event q;"),
            new GridTest("a wrong setup on the tape", "load " + BASE, "end 50", "keep 1", "tape end 9;event q;;"),
            new GridTest("END 1", "load end 1;event a;event b;gap a b least 1;gap b a most 0;"),
            new GridTest("END 999", "load end 999;event a;event b;gap start b least 999;gap a b most 999;"
                    + "gap a b least 0;gap b a most 999 off;"),
            new GridTest("a ring of nought", "load end 9;event a;event b;event c;gap a b most 0;gap b c most 0;"
                    + "gap c a most 0;gap b a most 0;pin b 4;", "tape a"),
            new GridTest("some", "load " + BASE, "keep 0", "end 50", "pin 3 7", "end 40", "tape start"),
            new GridTest("denied and undone", "load " + BASE + "pin b 30;", "tell 1 2 0 5", "turn 1", "undo",
                    "keep 1", "tell 1 2 1 999", "tell 0 1 0 3", "load x"),
            new GridTest("all pinned", "load " + BASE, "pinAll", "tape qrstuv"),
            full(),
        };
        int calls = 0;
        int wrong = 0;
        for (GridTest grid : grids) {
            grid.run();
            calls += grid.calls;
            wrong += grid.wrong;
        }
        System.out.println("GridTest: " + calls + " answers, " + wrong + " wrong");
        if (wrong != 0) {
            System.exit(1);
        }
    }

    /** Ten events, 24 gaps, a full log, eight that can be undone. */
    private static GridTest full() {
        StringBuilder setup = new StringBuilder("load end 60;");
        for (char event = 'a'; event < 'j'; event++) {
            setup.append("event ").append(event).append(';');
        }
        setup.append("gap start a least 5;");
        for (char event = 'a'; event < 'i'; event++) {
            setup.append("gap ").append(event).append(' ').append((char) (event + 1)).append(" least 5;");
        }
        for (int gap = 9; gap < 24; gap++) {
            setup.append("gap h i most ").append(gap).append(gap % 2 == 0 ? ";" : " off;");
        }
        List<String> recipe = new ArrayList<>(List.of(setup.toString(), "pin 4 21", "keep 0", "keep 1"));
        for (int end = 61; end < 101; end++) {
            recipe.add("end " + end);
        }
        recipe.add("tape xyz");
        return new GridTest("full", recipe.toArray(new String[0]));
    }

    private static Map<String, Method> methods(Class<?> owner) {
        Map<String, Method> methods = new HashMap<>();
        for (Method method : owner.getDeclaredMethods()) {
            methods.putIfAbsent(method.getName(), method);
        }
        return methods;
    }

    private void run() {
        for (String form : QUESTIONS) {
            make();
            grid(form, 0, new int[form.length() - form.indexOf(' ') - 1], false);
        }
        for (String form : OPERATIONS) {
            make();
            grid(form, 0, new int[form.length() - form.indexOf(' ') - 1], true);
        }
    }

    private void make() {
        x = new TimeGaps();
        m = new Model();
        callsOfX = 0;
        for (String line : recipe) {
            int space = line.indexOf(' ');
            String word = space < 0 ? line : line.substring(0, space);
            String rest = space < 0 ? "" : line.substring(space + 1);
            if (word.equals("tape") || word.equals("load")) {
                tape(rest);
                if (word.equals("load")) {
                    call("load");
                }
            } else {
                int[] args = rest.isEmpty() ? new int[0]
                        : Arrays.stream(rest.split(" ")).mapToInt(Integer::parseInt).toArray();
                call(word, args);
            }
        }
    }

    private void tape(String text) {
        String padded = text + " ".repeat((20 - text.length() % 20) % 20);
        for (int at = 0; at < padded.length(); at += 20) {
            int[] words = new int[5];
            for (int i = 0; i < 20; i++) {
                words[i / 4] |= padded.charAt(at + i) << 24 - i % 4 * 8;
            }
            call("append", words);
        }
        call("truncate", padded.length() - text.length());
    }

    /** All combinations of the arguments from the one at on. */
    private void grid(String form, int at, int[] args, boolean operation) {
        if (at == args.length) {
            String method = form.substring(0, form.indexOf(' '));
            if (operation) {
                make();
                call(method, args);
                look();
                call("undo");
                look();
            } else {
                if (callsOfX > CALLS_OF_AN_OBJECT) {
                    make();
                }
                call(method, args);
            }
            return;
        }
        if (operation) {
            make();
        }
        for (int argument : edges(form.charAt(form.indexOf(' ') + 1 + at), Arrays.copyOf(args, at))) {
            args[at] = argument;
            grid(form, at + 1, args, operation);
        }
    }

    private TreeSet<Integer> edges(char kind, int[] before) {
        TreeSet<Integer> edges = new TreeSet<>();
        int last = last(kind);
        if (last >= 0) {
            edges.addAll(List.of(-1, 0, 1, last - 1, last, last + 1));
            if (last < 8 && kind != 'e' && kind != 'o') {
                for (int i = 2; i < last; i++) {
                    edges.add(i);
                }
            }
            if (before.length == 0) {
                edges.addAll(List.of(Integer.MIN_VALUE, Integer.MAX_VALUE));
            }
            return edges;
        }
        edges.addAll(List.of(-1, 0, 999, 1000));
        if (kind == 'n') {
            edges.addAll(numbers(before));
        } else if (kind == 't') {
            int end = m.value(0);
            edges.addAll(List.of(Integer.MIN_VALUE, 1, end, end + 1, Integer.MAX_VALUE));
            addAround(edges, m.event(before[0], 0));
            addAround(edges, m.event(before[0], 1));
        } else {
            edges.addAll(List.of(Integer.MIN_VALUE, 1, m.value(0), Integer.MAX_VALUE));
            addAround(edges, m.value(9));
        }
        return edges;
    }

    private int last(char kind) {
        switch (kind) {
            case 'e':
            case 'o': return m.value(1) - 1;
            case 'g': return Math.max(0, m.value(2) - 1);
            case 'k':
            case 's': return 1;
            case 'i': return Math.max(m.value(1), m.value(11));
            case 'b': return Math.max(m.listLength(), m.setupLength());
            case 'c': return m.truncate(0);
            case 'v': return 12;
            default: return kind >= '0' && kind <= '9' ? kind - '0' : -1;
        }
    }

    /** The tightest N that is not denied, and those beside it; for a gap that is, its own one, too. */
    private TreeSet<Integer> numbers(int[] before) {
        TreeSet<Integer> numbers = new TreeSet<>();
        if (before.length == 1) {
            int gap = before[0];
            addAround(numbers, m.gap(gap, 3));
            addAround(numbers, m.tightest(m.gap(gap, 0), m.gap(gap, 1), m.gap(gap, 2)));
        } else {
            addAround(numbers, m.tightest(before[0], before[1], before[2]));
        }
        return numbers;
    }

    private static void addAround(TreeSet<Integer> edges, int n) {
        edges.addAll(List.of(n - 1, n, n + 1));
    }

    /** What can be seen of the state, as far as it takes few calls. */
    private void look() {
        for (int what = 0; what < 13; what++) {
            call("value", what);
        }
        for (int what = 0; what < 3; what++) {
            call("log", 0, what);
            call("log", m.value(11) - 1, what);
        }
        for (int what = 0; what < 5; what++) {
            call("gap", 0, what);
            call("gap", m.value(2) - 1, what);
            call("event", 1, what);
            call("letter", m.value(1) - 1, what);
        }
        call("errorPosition");
        call("truncate", 0);
        call("setupLength");
        call("listLength");
    }

    private void call(String method, int... args) {
        Object[] boxed = Arrays.stream(args).boxed().toArray();
        Object got = answer(real.get(method), x, boxed);
        Object due = answer(plain.get(method), m, boxed);
        callsOfX++;
        calls++;
        if (!got.equals(due)) {
            wrong++;
            if (wrong < 20) {
                System.out.println("GridTest, " + name + ": " + method + Arrays.toString(args) + " answered " + got
                        + ", due is " + due);
            }
        }
    }

    private static Object answer(Method method, Object object, Object[] args) {
        try {
            return method.invoke(object, args);
        } catch (ReflectiveOperationException e) {
            return String.valueOf(e.getCause());
        }
    }
}
