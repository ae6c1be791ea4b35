import java.util.ArrayList;
import java.util.List;

/**
 * A run of calls that is made anew on each object that is asked something. So nothing that a test
 * asks disturbs the next question, and no object is used beyond the calls that the document promises.
 */
final class Tape {
    static final int MOST_CALLS = 512;
    static final Tape NEW = new Tape(List.of());

    private static final String[] QUESTIONS = {"count(4)", "wayMood()", "count(3)", "page(0, 9)", "count(7)", "way(0, 2)",
        "count(2)", "choice(0, 0, 3)", "count(8)", "reader(0, 2)", "count(5)"};

    private final List<String> calls;

    private Tape(List<String> calls) {
        if (calls.size() > MOST_CALLS) {
            throw new IllegalArgumentException("a test of " + calls.size() + " calls proves nothing");
        }
        this.calls = calls;
    }

    static Tape of(String... calls) {
        return NEW.then(calls);
    }

    static Tape pages(int number) {
        return NEW.times(number, "addPage(0, 0, 0)");
    }

    /** Pages of no mood and no flags, with the choices of a text, which stays. */
    static Tape book(int number, String choices) {
        return pages(number).typing(choices).then("addChoices()");
    }

    Tape then(String... more) {
        List<String> all = new ArrayList<>(calls);
        all.addAll(List.of(more));
        return new Tape(all);
    }

    Tape times(int number, String call) {
        List<String> all = new ArrayList<>(calls);
        for (int i = 0; i < number; i++) {
            all.add(call);
        }
        return new Tape(all);
    }

    Tape typing(String text) {
        List<String> all = new ArrayList<>(calls);
        for (int i = 0; i < text.length(); i++) {
            all.add("type(" + (int) text.charAt(i) + ")");
        }
        return new Tape(all);
    }

    int length() {
        return calls.size();
    }

    PathBook play() {
        PathBook x = new PathBook();
        for (String call : calls) {
            Call.of(call).on(x);
        }
        return x;
    }

    int answer(String call) {
        if (calls.size() >= MOST_CALLS) {
            throw new IllegalArgumentException(call + " comes behind the last call that is promised");
        }
        return Call.of(call).on(play());
    }

    boolean hasRoomForQuestions() {
        return calls.size() * 2 < MOST_CALLS;
    }

    /** As answer(), but with a question behind each call: what was worked out once must not outlive a change. */
    int answerBehindQuestions(String call) {
        PathBook x = new PathBook();
        for (int i = 0; i < calls.size(); i++) {
            Call.of(calls.get(i)).on(x);
            Call.of(QUESTIONS[(calls.size() - i) % QUESTIONS.length]).on(x);
        }
        return Call.of(call).on(x);
    }

    @Override
    public String toString() {
        int first = Math.max(0, calls.size() - 6);
        return (first == 0 ? "" : ".. ") + String.join(" ", calls.subList(first, calls.size()));
    }

    // ---- what can be learned of the object behind the tape

    /** All that is told of a state: pages, choices, readers, what can be come to, the way. */
    String state() {
        Witness w = new Witness(this);
        int pages = w.ask("count(0)");
        for (int page = 0; page < pages; page++) {
            int choices = w.ask("page(" + page + ", 0)");
            w.askEach("page(" + page + ", ", 1, 10);
            for (int choice = 0; choice < choices; choice++) {
                w.askEach("choice(" + page + ", " + choice + ", ", 0, 3);
            }
        }
        for (int reader = 0; reader < 2; reader++) {
            w.askEach("reader(" + reader + ", ", 0, 3);
            w.askEach("why(" + reader + ", ", 0, 2);
        }
        w.askEach("count(", 1, 9);
        int steps = w.ask("count(8)");
        for (int step = 0; step <= steps; step++) {
            w.askEach("way(" + step + ", ", 0, 2);
        }
        w.ask("wayMood()");
        w.answerAndState("goToMark(0)");
        w.answerAndState("goToMark(1)");
        return w.told.toString();
    }

    /** The state, and all that stands beside it: the history, the snapshot, the text. */
    String everything() {
        return state() + history() + snapshot() + text();
    }

    String history() {
        Witness w = new Witness(this);
        int states = w.ask("count(10)");
        Tape back = this;
        for (int i = 0; i < states; i++) {
            back = back.then("undo()");
            w.told.append("the state ").append(i + 1).append(" back:\n").append(back.state());
        }
        w.told.append("and one undo() more = ").append(back.answer("undo()")).append('\n');
        return w.told.toString();
    }

    String snapshot() {
        Witness w = new Witness(this);
        w.answerAndState("restore()");
        return w.told.toString();
    }

    String text() {
        Witness w = new Witness(this);
        w.ask("count(11)");
        w.answerAndState("addChoices()");
        return w.told.toString();
    }

    /** Asks on an object behind the tape, and on a new one when the calls of that are used up. */
    private static final class Witness {
        private final Tape tape;
        private PathBook book;
        private int left = 0;
        private final StringBuilder told = new StringBuilder();

        Witness(Tape tape) {
            this.tape = tape;
        }

        int ask(String call) {
            if (left == 0) {
                book = tape.play();
                left = MOST_CALLS - tape.length();
            }
            left--;
            int answer = Call.of(call).on(book);
            tell(call, answer);
            return answer;
        }

        void askEach(String head, int first, int last) {
            for (int what = first; what <= last; what++) {
                ask(head + what + ")");
            }
        }

        /** An act, on an object of its own, and the state behind it, without what is worked out of pages. */
        void answerAndState(String act) {
            tell(act, tape.answer(act));
            Witness behind = new Witness(tape.then(act));
            behind.askEach("count(", 0, 9);
            int pages = behind.ask("count(0)");
            for (int page = 0; page < pages; page++) {
                int choices = behind.ask("page(" + page + ", 0)");
                behind.askEach("page(" + page + ", ", 1, 3);
                for (int choice = 0; choice < choices; choice++) {
                    behind.askEach("choice(" + page + ", " + choice + ", ", 0, 2);
                }
            }
            for (int reader = 0; reader < 2; reader++) {
                behind.askEach("reader(" + reader + ", ", 0, 3);
            }
            told.append(behind.told);
        }

        private void tell(String call, int answer) {
            told.append(call).append(" = ").append(answer).append('\n');
        }
    }
}
