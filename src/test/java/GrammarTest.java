/** The grammar of a text of choices: at each place in it, which characters are allowed and which are the fault. */
public final class GrammarTest {
    private static final Sheet SHEET = new Sheet("GrammarTest");
    private static final int OVER_ONE_BYTE = 1024;

    private static PathBook book = null;
    private static int left = 0;

    public static void main(String[] args) {
        numbers();
        nextCharacters();
        allCharacters();
        allShortTexts();
        endsTooEarly();
        flagsOfTexts();
        numbersOfTexts();
        longTexts();
        SHEET.end();
    }

    // ---- what the tests share

    /** The answer of addChoices() for a text, in a book of 32 pages; one book for as many texts as its calls allow. */
    private static int read(String text) {
        int calls = text.length() + 3;
        if (left < calls) {
            book = Tape.pages(32).play();
            left = Tape.MOST_CALLS - 32;
        }
        left -= calls;
        for (int i = 0; i < text.length(); i++) {
            book.type(text.charAt(i));
        }
        int answer = book.addChoices();
        if (answer >= 0) {
            book.undo();
        }
        book.clearText();
        return answer;
    }

    private static void fault(String text, int at) {
        SHEET.due("addChoices() of '" + text + "'", read(text), -100 - at);
    }

    private static void fine(String text, int choices) {
        SHEET.due("addChoices() of '" + text + "'", read(text), choices);
    }

    /** Each place of a text, told by what stands ahead of it, with the characters that are allowed there. */
    private static final String[][] PLACES = {
        {"", "0123456789"},
        {"0", ">"},
        {"1", "0123456789>"},
        {"2", "0123456789>"},
        {"3", "01>"},
        {"4", ">"},
        {"9", ">"},
        {"10", ">"},
        {"29", ">"},
        {"31", ">"},
        {"0>", "0123456789"},
        {"0>0", "+-;"},
        {"0>1", "0123456789+-;"},
        {"0>2", "0123456789+-;"},
        {"0>3", "01+-;"},
        {"0>4", "+-;"},
        {"0>9", "+-;"},
        {"0>10", "+-;"},
        {"0>30", "+-;"},
        {"0>31", "+-;"},
        {"0>0+", "abcde"},
        {"0>0+a", "bcde-;"},
        {"0>0+b", "cde-;"},
        {"0>0+c", "de-;"},
        {"0>0+d", "e-;"},
        {"0>0+e", "-;"},
        {"0>0+abcde", "-;"},
        {"0>0+ac", "de-;"},
        {"0>0-", "abcde"},
        {"0>0-a", "bcde;"},
        {"0>0-b", "cde;"},
        {"0>0-c", "de;"},
        {"0>0-d", "e;"},
        {"0>0-e", ";"},
        {"0>0-abcde", ";"},
        {"0>0+e-", "abcde"},
        {"0>0+e-a", "bcde;"},
        {"0>0+ab-bd", "e;"},
        {"0>0;", "0123456789"},
        {"0>0;3", "01>"},
        {"0>0;0>", "0123456789"},
        {"0>0+a;1>1", "0123456789+-;"},
        {"0>0-a;1>1+b", "cde-;"},
        {"0>0+a-b;1>1-c", "de;"},
    };

    private static boolean isWhole(String text) {
        char last = text.charAt(text.length() - 1);
        return text.lastIndexOf('>') > text.lastIndexOf(';') && (Character.isDigit(last) || last >= 'a' && last <= 'e');
    }

    private static int choicesIn(String text) {
        int choices = 1;
        for (int i = 0; i < text.length(); i++) {
            choices += text.charAt(i) == ';' ? 1 : 0;
        }
        return choices;
    }

    private static void dueOfNext(String ahead, String allowed, char sign) {
        String text = ahead + sign;
        if (allowed.indexOf(sign) < 0) {
            fault(text, ahead.length());
        } else if (isWhole(text)) {
            fine(text, choicesIn(text));
        } else {
            fault(text, text.length());
        }
    }

    // ---- the sentences

    private static void numbers() {
        SHEET.sentence("A page (0 to 31); no zero in front, unless it is the single digit 0.");
        for (int number = 0; number <= 31; number++) {
            fine(number + ">0", 1);
            fine("0>" + number, 1);
            fine("31>" + number + "+e-e;" + number + ">0", 2);
            fault("0" + number + ">0", 1);
            fault("0>0" + number, 3);
        }
        for (int number = 32; number <= 320; number++) {
            int fits = number / 10 <= 31 && number >= 100 ? 2 : 1;
            fault(number + ">0", fits);
            fault("0>" + number, 2 + fits);
        }
        fault("2147483648>0", 2);
        fault("4294967296>0", 1);
    }

    private static void nextCharacters() {
        SHEET.sentence("The fault is the index of the first character that is not allowed at its place.");
        for (String[] place : PLACES) {
            for (int sign = 0; sign < OVER_ONE_BYTE; sign++) {
                dueOfNext(place[0], place[1], (char) sign);
            }
            // Signs that a byte, or an addition, would take for those that are allowed.
            for (char sign : "0123456789>+-;abcde".toCharArray()) {
                dueOfNext(place[0], place[1], (char) (sign + 0x8000));
                dueOfNext(place[0], place[1], (char) (sign + 0xff00));
                dueOfNext(place[0], place[1], (char) (sign + 0xfee0));
            }
            dueOfNext(place[0], place[1], (char) 0xffff);
            // What stands behind the fault does not matter.
            fault(place[0] + " " + "0>0;0>0", place[0].length());
            fault(place[0] + "?>32;;", place[0].length());
        }
    }

    private static void allCharacters() {
        SHEET.sentence("The fault is the first character that is not allowed: all 65536 of them.");
        for (int sign = 0; sign <= 0xffff; sign++) {
            dueOfNext("0>3", "01+-;", (char) sign);
            dueOfNext("0>0+a", "bcde-;", (char) sign);
        }
    }

    /** All short texts of a small alphabet, also behind longer ones; faultOf() tells what is due. */
    private static void allShortTexts() {
        SHEET.sentence("A text of choices, by all short texts.");
        String alphabet = "0134>+-;abe";
        for (int length = 0; length <= 5; length++) {
            grow("", length, alphabet);
        }
        for (String ahead : new String[] {"0>1", "31>3", "0>0+a", "0>0-e;1"}) {
            for (int length = 0; length <= 4; length++) {
                grow(ahead, length, alphabet);
            }
        }
    }

    private static void grow(String text, int more, String alphabet) {
        if (more == 0) {
            int at = faultOf(text);
            SHEET.due("addChoices() of '" + text + "'", read(text), at < 0 ? choicesIn(text) : -100 - at);
            return;
        }
        for (int i = 0; i < alphabet.length(); i++) {
            grow(text + alphabet.charAt(i), more - 1, alphabet);
        }
    }

    /** -1 without a fault. Parts: 0 the page, 1 the page behind ">", 2 the flags behind "+", 3 those behind "-". */
    private static int faultOf(String text) {
        int part = 0;
        String token = "";
        for (int i = 0; i < text.length(); i++) {
            char sign = text.charAt(i);
            String longer = token + sign;
            boolean whole = !token.isEmpty();
            if (part <= 1 && longer.matches("[0-9]|[12][0-9]|3[01]")) {
                token = longer;
            } else if (part >= 2 && longer.matches("a?b?c?d?e?")) {
                token = longer;
            } else {
                int next = part == 0 ? (sign == '>' ? 1 : -1)
                    : sign == ';' ? 0 : sign == '+' && part == 1 ? 2 : sign == '-' && part <= 2 ? 3 : -1;
                if (!whole || next < 0) {
                    return i;
                }
                part = next;
                token = "";
            }
        }
        return part == 0 || token.isEmpty() ? text.length() : -1;
    }

    private static void endsTooEarly() {
        SHEET.sentence("Or the length of the text if it ends too early (the empty text does).");
        fault("", 0);
        for (String[] place : PLACES) {
            if (place[0].isEmpty() || !isWhole(place[0])) {
                fault(place[0], place[0].length());
            } else {
                fine(place[0], choicesIn(place[0]));
            }
        }
    }

    private static void flagsOfTexts() {
        SHEET.sentence("The flags of one sign in rising order of their letters, each once.");
        for (int need = 0; need < 32; need++) {
            for (int bar = 0; bar < 32; bar++) {
                String text = "31>30" + (need == 0 ? "" : "+" + letters(need)) + (bar == 0 ? "" : "-" + letters(bar));
                Tape tape = Tape.pages(32).typing(text).then("addChoices()");
                PathBook x = tape.play();
                SHEET.due(text + " to", x.choice(31, 0, 0), 30);
                SHEET.due(text + " needs", x.choice(31, 0, 1), need);
                SHEET.due(text + " bars", x.choice(31, 0, 2), bar);
            }
        }
        for (char one = 'a'; one <= 'e'; one++) {
            for (char other = 'a'; other <= one; other++) {
                fault("0>0+" + one + other, 5);
                fault("0>0-" + one + other, 5);
                fine("0>0+" + one + "-" + other, 1);
                fine("0>0+" + other + "-" + one, 1);
            }
        }
    }

    private static String letters(int set) {
        StringBuilder text = new StringBuilder();
        for (int flag = 0; flag < 5; flag++) {
            text.append((set >> flag & 1) == 1 ? String.valueOf((char) ('a' + flag)) : "");
        }
        return text.toString();
    }

    private static void numbersOfTexts() {
        SHEET.sentence("A page (0 to 31), \">\", a page (0 to 31): the numbers that are read.");
        for (int page = 0; page <= 31; page++) {
            PathBook x = Tape.pages(32).typing(page + ">" + (31 - page)).then("addChoices()").play();
            SHEET.due("choices of page " + page, x.page(page, 0), 1);
            SHEET.due("the page to which it leads", x.choice(page, 0, 0), 31 - page);
        }
    }

    private static void longTexts() {
        SHEET.sentence("One or more choices with \";\" between two, up to 60 characters.");
        StringBuilder text = new StringBuilder();
        for (int choices = 1; choices <= 15; choices++) {
            text.append(choices == 1 ? "" : ";").append(choices % 10).append(">0");
            fine(text.toString(), choices);
            fault(text + ";", text.length() + 1);
        }
        SHEET.due("signs of 15 choices", text.length(), 59);
        String sixty = "30>30+abcde-abcde;30>30+abcde-abcde;30>30+abcde-abcde;0>0-ab";
        fine(sixty, 4);
        fine(sixty + "c", 4);
        fault(sixty.substring(0, 59) + "x", 59);
        fault(sixty.substring(0, 59) + "a", 59);
        fine(text.substring(0, 58) + "10", 15);
        fine("1" + text, 15);
        fault(text + "+", 60);
        fault(text + "0", 59);
        fault(text + "+a", 60);
    }
}
