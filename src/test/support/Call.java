import java.util.HashMap;
import java.util.Map;

/** One call of the face, told as a text: "addPage(5, 0, 0)". MIN and MAX are the least and the greatest int. */
record Call(String name, int[] with) {
    private static final Map<String, Call> READ = new HashMap<>();

    static Call of(String text) {
        return READ.computeIfAbsent(text, Call::read);
    }

    private static Call read(String text) {
        int open = text.indexOf('(');
        String inside = text.substring(open + 1, text.length() - 1);
        String[] parts = inside.isEmpty() ? new String[0] : inside.split(", ");
        int[] with = new int[parts.length];
        for (int i = 0; i < parts.length; i++) {
            with[i] = number(parts[i]);
        }
        return new Call(text.substring(0, open), with);
    }

    private static int number(String text) {
        switch (text) {
            case "MIN": return Integer.MIN_VALUE;
            case "MAX": return Integer.MAX_VALUE;
            default: return Integer.parseInt(text);
        }
    }

    int on(PathBook x) {
        switch (name + with.length) {
            case "addPage3": return x.addPage(with[0], with[1], with[2]);
            case "setMood2": return x.setMood(with[0], with[1]);
            case "addChoice4": return x.addChoice(with[0], with[1], with[2], with[3]);
            case "addChoices0": return x.addChoices();
            case "takeChoice2": return x.takeChoice(with[0], with[1]);
            case "exchange2": return x.exchange(with[0], with[1]);
            case "begin1": return x.begin(with[0]);
            case "choose2": return x.choose(with[0], with[1]);
            case "mark1": return x.mark(with[0]);
            case "goToMark1": return x.goToMark(with[0]);
            case "type1": return x.type((char) with[0]);
            case "clearText0": return x.clearText();
            case "undo0": return x.undo();
            case "keep0": return x.keep();
            case "restore0": return x.restore();
            case "page2": return x.page(with[0], with[1]);
            case "choice3": return x.choice(with[0], with[1], with[2]);
            case "reader2": return x.reader(with[0], with[1]);
            case "why2": return x.why(with[0], with[1]);
            case "way2": return x.way(with[0], with[1]);
            case "wayMood0": return x.wayMood();
            case "count1": return x.count(with[0]);
            default: throw new IllegalArgumentException("no such call: " + name + " with " + with.length);
        }
    }
}
