import java.util.ArrayList;
import java.util.List;
import java.util.regex.Matcher;
import java.util.regex.Pattern;

/** The setup text, cut into tokens first and read behind that. */
final class ModelSetup {
    private record Token(String text, int at) { }

    private static final class Stop extends RuntimeException {
        private static final long serialVersionUID = 1L;
    }

    private static final Pattern TOKEN = Pattern.compile("[a-z]+|[0-9]+|;|[^a-z0-9; \n]", Pattern.DOTALL);
    private final List<Token> tokens = new ArrayList<>();
    private int next;
    private final Model.State state = new Model.State();

    ModelSetup(String text) {
        Matcher m = TOKEN.matcher(text);
        while (m.find()) {
            tokens.add(new Token(m.group(), m.start()));
        }
        tokens.add(new Token("", text.length()));
    }

    int position() {
        return tokens.get(next).at;
    }

    Model.State read() {
        try {
            setup();
            return state;
        } catch (Stop s) {
            return null;
        }
    }

    private String here() {
        return tokens.get(next).text;
    }

    private void need(boolean good) {
        if (!good) {
            throw new Stop();
        }
    }

    private void take(String text) {
        need(here().equals(text));
        next++;
    }

    private int number(int from, int to) {
        need(here().matches("[0-9]{1,3}"));
        int number = Integer.parseInt(here());
        need(number >= from && number <= to);
        next++;
        return number;
    }

    private int event(int notThis) {
        int event = state.names.indexOf(here());
        need(event >= 0 && event != notThis);
        next++;
        return event;
    }

    private void setup() {
        take("end");
        state.end = number(1, 999);
        take(";");
        while (here().equals("event")) {
            need(state.names.size() < 10);
            next++;
            need(here().matches("[a-z]{1,5}") && !Model.KEYWORDS.contains(here()) && !state.names.contains(here()));
            state.names.add(here());
            next++;
            take(";");
        }
        while (here().equals("gap")) {
            need(state.gaps.size() < 24);
            gap();
        }
        while (here().equals("pin")) {
            pin();
        }
        need(next == tokens.size() - 1);
    }

    private void gap() {
        next++;
        int one = event(-1);
        int other = event(one);
        need(here().equals("most") || here().equals("least"));
        int kind = here().equals("most") ? 0 : 1;
        next++;
        int n = number(0, 999);
        boolean on = !here().equals("off");
        next += on ? 0 : 1;
        state.gaps.add(new Model.Gap(one, other, kind, n, on));
        need(!state.copy().denied());
        take(";");
    }

    private void pin() {
        next++;
        int event = state.names.indexOf(here());
        need(event > 0 && !state.pins.containsKey(event));
        next++;
        state.pins.put(event, number(0, state.end));
        need(!state.copy().denied());
        take(";");
    }
}
