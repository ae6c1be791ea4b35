import java.util.HashSet;
import java.util.Set;

/** Counts what a test found, under the sentence of the document that it tests. */
final class Sheet {
    private final String test;
    private final Set<String> sentences = new HashSet<>();
    private String sentence = "";
    private int answers = 0;
    private int wrong = 0;

    Sheet(String test) {
        this.test = test;
    }

    void sentence(String words) {
        sentence = words;
        sentences.add(words);
    }

    void due(String what, int got, int want) {
        answers++;
        if (got != want) {
            tell(what + " answered " + got + ", due is " + want);
        }
    }

    void due(Tape tape, String call, int want) {
        due(tape + ": " + call, tape.answer(call), want);
        if (tape.hasRoomForQuestions()) {
            due(tape + ", with questions between: " + call, tape.answerBehindQuestions(call), want);
        }
    }

    void same(String what, String got, String want) {
        answers++;
        if (!got.equals(want)) {
            tell(what + ": " + firstDifference(got, want));
        }
    }

    void differ(String what, String one, String other) {
        answers++;
        if (one.equals(other)) {
            tell(what + ": both are the same");
        }
    }

    /** Prints what was found, and ends the program. */
    void end() {
        System.out.println(test + ": " + sentences.size() + " sentences, " + answers + " answers, " + wrong + " not as due");
        System.exit(wrong == 0 ? 0 : 1);
    }

    private void tell(String what) {
        wrong++;
        if (wrong <= 50) {
            System.out.println("[" + sentence + "] " + what);
        }
    }

    private static String firstDifference(String got, String want) {
        String[] one = got.split("\n");
        String[] other = want.split("\n");
        for (int i = 0; i < one.length && i < other.length; i++) {
            if (!one[i].equals(other[i])) {
                return "'" + one[i] + "', due is '" + other[i] + "'";
            }
        }
        return one.length + " lines, due are " + other.length;
    }
}
