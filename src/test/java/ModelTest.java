import java.lang.reflect.Method;
import java.util.ArrayList;
import java.util.Arrays;
import java.util.Collections;
import java.util.HashMap;
import java.util.List;
import java.util.Map;
import java.util.Random;

/** Long runs of calls by fixed seeds, each answer held against that of the slow Model. */
public final class ModelTest {
    private static final int RUNS = 900;
    private static final int CALLS = 500;
    // A letter for each argument: e event, o another event, g gap, k kind, n number, t time,
    // E END, s slot, i index, b index of a byte; a digit: from 0 to that digit, v: to 12.
    private static final String[] OPERATIONS = {
        "tell eokn", "tell eokn", "tell eokn", "tell eokn", "drop g", "set gn", "set gn", "turn g", "turn g",
        "pin et", "unpin e", "end E", "reverse g", "reverse g", "undo ", "undo ", "keep s", "restore s"};
    private static final String[] SELDOM = {"tighten ", "tighten ", "thin ", "pinAll "};
    private static final String[] QUESTIONS = {
        "errorPosition ", "value v", "value v", "value v", "letter ei", "gap g7", "gap g7", "event e4", "event e4",
        "bound eo", "bound eo", "way eoi", "way eoi", "wayLength eo", "relation eo", "play eo", "pairs 5",
        "direct eo", "ordered i", "middle e", "lastly i", "can et", "widest ", "freest ", "why eokn2", "why eokn2",
        "ring eokni", "culprit eokn", "tightest eok", "spare g", "needless ", "needs e", "ifTold eokn2",
        "ifDropped g2", "ifTurned g2", "ifPinned et2", "leastEnd ", "slowest ", "log i2", "tightShare ",
        "meanRoom ", "listLength ", "listByte b", "setupLength ", "setupByte b", "truncate i"};
    private static final String[] WORDS = {
        "a", "b", "cc", "d", "e", "fgh", "zzzzz", "q", "r", "s", "t", "u", "end", "event", "gap", "most", "least",
        "off", "pin", "start", "toolong", "", " a", "a ", "A", "a1", "1", "a;", "starts", "star"};

    private final Map<String, Method> real = methods(TimeGaps.class);
    private final Map<String, Method> plain = methods(Model.class);
    private final List<String> history = new ArrayList<>();
    private final Random random;
    private TimeGaps x;
    private Model m;
    private boolean wrong;

    private ModelTest(long seed) {
        random = new Random(seed);
    }

    private static Map<String, Method> methods(Class<?> owner) {
        Map<String, Method> methods = new HashMap<>();
        for (Method method : owner.getDeclaredMethods()) {
            methods.putIfAbsent(method.getName(), method);
        }
        return methods;
    }

    public static void main(String[] args) {
        long calls = 0;
        for (int seed = 0; seed < RUNS; seed++) {
            ModelTest run = new ModelTest(seed);
            if (!run.run()) {
                System.out.println("ModelTest, seed " + seed + ":");
                for (String line : run.history) {
                    System.out.println("  " + line);
                }
                System.exit(1);
            }
            calls += run.history.size();
        }
        System.out.println("ModelTest: " + calls + " answers, 0 wrong");
    }

    private boolean run() {
        x = new TimeGaps();
        m = new Model();
        if (random.nextInt(8) != 0) {
            tape(setupText(random.nextInt(5) == 0));
            call("load");
        }
        int questions = 1 + random.nextInt(12);
        while (history.size() < CALLS - 50 && !wrong) {
            step(questions);
        }
        return !wrong;
    }

    private void step(int questions) {
        int chance = random.nextInt(100);
        if (chance < 1) {
            tape(setupText(random.nextInt(3) != 0));
            call("load");
        } else if (chance < 6) {
            tape(WORDS[random.nextInt(WORDS.length)]);
            if (random.nextInt(3) == 0) {
                call("rename", event());
            } else {
                call("open");
            }
            if (m.truncate(0) > 0) {
                call("truncate", m.truncate(0));
            }
        } else if (chance < 13) {
            any(SELDOM);
        } else {
            any(OPERATIONS);
        }
        for (int i = 0; i < questions; i++) {
            any(QUESTIONS);
        }
    }

    private void any(String[] forms) {
        String form = forms[random.nextInt(forms.length)];
        int space = form.indexOf(' ');
        String kinds = form.substring(space + 1);
        int[] args = new int[kinds.length()];
        int near = 0;
        for (int i = 0; i < args.length; i++) {
            args[i] = argument(kinds.charAt(i), near, args[0]);
            if (kinds.charAt(i) == 'e') {
                near = m.event(args[i], random.nextInt(2));
            }
            if (kinds.charAt(i) == 'o') {
                near = random.nextBoolean() ? m.bound(args[0], args[i]) : m.bound(args[i], args[0]);
            }
            if (kinds.charAt(i) == 'g') {
                near = m.gap(args[i], 3);
            }
        }
        call(form.substring(0, space), args);
    }

    private int argument(char kind, int near, int first) {
        int chance = random.nextInt(100);
        if (chance == 0) {
            return random.nextInt();
        }
        if (chance == 1) {
            return new int[] {Integer.MIN_VALUE, Integer.MAX_VALUE, -1, 10, 24, 999, 1000}[random.nextInt(7)];
        }
        switch (kind) {
            case 'e': return event();
            case 'o': return other(first);
            case 'g': return random.nextInt(m.value(2) + 1) - (random.nextInt(20) == 0 ? 1 : 0);
            case 'k': return random.nextInt(20) == 0 ? 2 : random.nextInt(2);
            case 's': return random.nextInt(2);
            case '2':
            case '4':
            case '5':
            case '7': return random.nextInt(kind - '0' + 1) + (random.nextInt(20) == 0 ? 1 : 0);
            case 'v': return random.nextInt(14);
            case 'i': return random.nextInt(random.nextInt(4) == 0 ? 45 : 6) - (random.nextInt(10) == 0 ? 1 : 0);
            case 'b': return random.nextInt(random.nextBoolean() ? 40 : 700) - (random.nextInt(10) == 0 ? 1 : 0);
            case 'E': return random.nextInt(3) == 0 ? m.value(9) + random.nextInt(3) - 1 : 1 + random.nextInt(120);
            default: return random.nextInt(3) == 0 ? random.nextInt(30) : Math.abs(near) + random.nextInt(5) - 2;
        }
    }

    private int event() {
        return random.nextInt(m.value(1) + (random.nextInt(15) == 0 ? 1 : 0));
    }

    private int other(int first) {
        int event = event();
        return event == first && random.nextInt(10) != 0 ? event() : event;
    }

    private void tape(String text) {
        int rest = text.length() % 20 == 0 ? 0 : 20 - text.length() % 20;
        StringBuilder padded = new StringBuilder(text);
        for (int i = 0; i < rest; i++) {
            padded.append((char) random.nextInt(256));
        }
        for (int at = 0; at < padded.length() && at < 900; at += 20) {
            int[] words = new int[5];
            for (int i = 0; i < 20; i++) {
                words[i / 4] |= padded.charAt(at + i) << 24 - i % 4 * 8;
            }
            call("append", words);
        }
        call("truncate", rest);
    }

    private String setupText(boolean broken) {
        int end = new int[] {1, 5, 20, 60, 100, 500, 999}[random.nextInt(7)];
        int count = random.nextInt(4) == 0 ? 9 : random.nextInt(8);
        List<String> names = new ArrayList<>(List.of("a", "b", "c", "dd", "efg", "hijk", "lmnop", "q", "z"));
        Collections.shuffle(names, random);
        int[] times = new int[count + 1];
        List<String> tokens = new ArrayList<>(List.of("end", "" + end, ";"));
        for (int e = 1; e <= count; e++) {
            times[e] = random.nextInt(end + 1);
            tokens.addAll(List.of("event", names.get(e - 1), ";"));
        }
        names.add(0, "start");
        int gaps = count == 0 ? 0 : random.nextInt(6) == 0 ? 24 + random.nextInt(2) : random.nextInt(16);
        for (int g = 0; g < gaps; g++) {
            gapTokens(tokens, names, times);
        }
        for (int e = 1; e <= count; e++) {
            if (random.nextInt(6) == 0) {
                tokens.addAll(List.of("pin", names.get(e), number(times[e]), ";"));
            }
        }
        return spaced(broken ? brokenTokens(tokens) : tokens);
    }

    private void gapTokens(List<String> tokens, List<String> names, int[] times) {
        int one = random.nextInt(times.length);
        int other = (one + 1 + random.nextInt(times.length - 1)) % times.length;
        int difference = times[other] - times[one];
        boolean least = random.nextInt(3) != 0 && difference >= 0;
        int slack = random.nextBoolean() ? 0 : random.nextInt(8);
        int n = least ? Math.max(0, difference - slack) : Math.max(0, difference) + slack;
        tokens.addAll(List.of("gap", names.get(one), names.get(other), least ? "least" : "most",
                number(Math.min(n, 999))));
        if (random.nextInt(7) == 0) {
            tokens.add("off");
        }
        tokens.add(";");
    }

    private String number(int n) {
        return random.nextInt(8) == 0 ? String.format("%03d", n) : "" + n;
    }

    private List<String> brokenTokens(List<String> tokens) {
        int at = random.nextInt(tokens.size());
        switch (random.nextInt(5)) {
            case 0:
                tokens.remove(at);
                break;
            case 1:
                tokens.add(at, tokens.get(random.nextInt(tokens.size())));
                break;
            case 2:
                tokens.set(at, tokens.get(random.nextInt(tokens.size())));
                break;
            case 3:
                tokens.set(at, new String[] {"x", "abcdef", "1000", "0", "999", "-", "A", "start", ";", "pin",
                    "event", "gap", "\t", "" + (char) 233}[random.nextInt(14)]);
                break;
            default:
                return tokens.subList(0, at);
        }
        return tokens;
    }

    private String spaced(List<String> tokens) {
        StringBuilder text = new StringBuilder();
        boolean wide = random.nextInt(4) == 0;
        String last = ";";
        for (String token : tokens) {
            boolean words = !last.isEmpty() && !token.isEmpty()
                    && Character.isLetterOrDigit(last.charAt(last.length() - 1))
                    && Character.isLetterOrDigit(token.charAt(0));
            if (words || wide && random.nextBoolean()) {
                text.append(random.nextInt(4) == 0 ? '\n' : ' ');
            }
            text.append(token);
            last = token;
        }
        if (wide) {
            text.append(" \n");
        }
        return text.length() > 900 ? text.substring(0, 900) : text.toString();
    }

    private void call(String name, int... args) {
        if (wrong) {
            return;
        }
        Object[] boxed = Arrays.stream(args).boxed().toArray();
        String said = name + Arrays.toString(args);
        Object got = answer(real.get(name), x, boxed);
        Object due = answer(plain.get(name), m, boxed);
        history.add(said + " answered " + got + ", due is " + due);
        wrong |= !got.equals(due);
    }

    private static Object answer(Method method, Object object, Object[] args) {
        try {
            return method.invoke(object, args);
        } catch (ReflectiveOperationException e) {
            return String.valueOf(e.getCause());
        }
    }
}
