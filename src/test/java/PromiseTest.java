/** The promises of the document, one function each: ordinary inputs, named edges, wrong inputs. */
public final class PromiseTest {
    private static final int UNKNOWN = PathBook.UNKNOWN;
    private static final int BAD = PathBook.BAD_VALUE;
    private static final int FULL = PathBook.FULL;
    private static final int NOT = PathBook.NOT_POSSIBLE;
    private static final int NONE = PathBook.NONE;
    private static final int MIN = Integer.MIN_VALUE;
    private static final int MAX = Integer.MAX_VALUE;

    private static final int A = 1;
    private static final int B = 2;
    private static final int C = 4;
    private static final int D = 8;
    private static final int E = 16;

    private static int wrong = 0;
    private static String part = "";

    private static void due(String call, int got, int want) {
        if (got != want) {
            wrong++;
            System.out.println(part + ": " + call + " answered " + got + ", due is " + want);
        }
    }

    public static void main(String[] args) {
        constants();
        newObject();
        addPage();
        setMood();
        addChoice();
        addChoices();
        faults();
        addChoicesAllOrNone();
        takeChoice();
        exchange();
        begin();
        choose();
        mark();
        goToMark();
        type();
        clearText();
        undo();
        undoBringsBackEverything();
        keep();
        restore();
        page();
        comesAgain();
        stuck();
        choice();
        reader();
        why();
        way();
        wayOfSeveral();
        wayMood();
        count();
        longBook();
        readersStay();
        System.out.println(wrong == 0 ? "PromiseTest: all answers are as due" : wrong + " answers are not as due");
        if (wrong != 0) {
            System.exit(1);
        }
    }

    // ---- what the tests share

    private static PathBook pages(int number) {
        PathBook x = new PathBook();
        for (int i = 0; i < number; i++) {
            x.addPage(0, 0, 0);
        }
        return x;
    }

    private static void write(PathBook x, String text) {
        x.clearText();
        for (int i = 0; i < text.length(); i++) {
            x.type(text.charAt(i));
        }
    }

    private static PathBook book(int number, String choices) {
        PathBook x = pages(number);
        write(x, choices);
        due("addChoices() of " + choices, x.addChoices(), choices.split(";").length);
        return x;
    }

    private static int bits(float value) {
        return Float.floatToIntBits(value);
    }

    private static void dueOfPage(PathBook x, int page, int what, int want) {
        due("page(" + page + ", " + what + ")", x.page(page, what), want);
    }

    private static void dueOfCount(PathBook x, int what, int want) {
        due("count(" + what + ")", x.count(what), want);
    }

    private static void dueOfReader(PathBook x, int reader, int page, int flags, int open, int taken) {
        due("reader(" + reader + ", 0)", x.reader(reader, 0), page);
        due("reader(" + reader + ", 1)", x.reader(reader, 1), flags);
        due("reader(" + reader + ", 2)", x.reader(reader, 2), open);
        due("reader(" + reader + ", 3)", x.reader(reader, 3), taken);
    }

    private static void dueOfChoice(PathBook x, int page, int choice, int to, int need, int bar) {
        due("choice(" + page + ", " + choice + ", 0)", x.choice(page, choice, 0), to);
        due("choice(" + page + ", " + choice + ", 1)", x.choice(page, choice, 1), need);
        due("choice(" + page + ", " + choice + ", 2)", x.choice(page, choice, 2), bar);
    }

    private static void dueOfStep(PathBook x, int step, int page, int flags, int choice) {
        due("way(" + step + ", 0)", x.way(step, 0), page);
        due("way(" + step + ", 1)", x.way(step, 1), flags);
        due("way(" + step + ", 2)", x.way(step, 2), choice);
    }

    // ---- the promises

    private static void constants() {
        part = "constants";
        due("UNKNOWN", PathBook.UNKNOWN, -1);
        due("BAD_VALUE", PathBook.BAD_VALUE, -2);
        due("FULL", PathBook.FULL, -3);
        due("NOT_POSSIBLE", PathBook.NOT_POSSIBLE, -4);
        due("NONE", PathBook.NONE, -5);
    }

    private static void newObject() {
        part = "1";
        PathBook x = new PathBook();
        for (int what = 0; what <= 11; what++) {
            dueOfCount(x, what, what == 8 ? NONE : 0);
        }
        due("page(0, 0)", x.page(0, 0), UNKNOWN);
        due("choice(0, 0, 0)", x.choice(0, 0, 0), UNKNOWN);
        dueOfReader(x, 0, NONE, NONE, NONE, NONE);
        dueOfReader(x, 1, NONE, NONE, NONE, NONE);
        due("why(0, 0)", x.why(0, 0), 1);
        dueOfStep(x, 0, NONE, NONE, NONE);
        due("wayMood()", x.wayMood(), NONE);
        due("undo()", x.undo(), NONE);
        due("restore()", x.restore(), NONE);
        due("addChoices()", x.addChoices(), -100);
        due("clearText()", x.clearText(), 0);
        PathBook other = new PathBook();
        other.addPage(1, 0, 0);
        dueOfCount(x, 0, 0);
    }

    private static void addPage() {
        part = "2";
        PathBook x = new PathBook();
        due("addPage(-99, 0, 31)", x.addPage(-99, 0, 31), 0);
        due("addPage(99, 31, 0)", x.addPage(99, 31, 0), 1);
        due("addPage(5, 21, 7)", x.addPage(5, 21, 7), 2);
        dueOfPage(x, 2, 0, 0);
        dueOfPage(x, 2, 1, 21);
        dueOfPage(x, 2, 2, 7);
        dueOfPage(x, 2, 3, bits(0.5f));
        dueOfPage(x, 0, 3, bits(-9.9f));
        dueOfPage(x, 1, 3, bits(9.9f));
        int[] badTenths = {-100, 100, MIN, MAX};
        for (int tenths : badTenths) {
            due("addPage(" + tenths + ", 0, 0)", x.addPage(tenths, 0, 0), BAD);
        }
        int[] badFlags = {-1, 32, MIN, MAX};
        for (int flags : badFlags) {
            due("addPage(0, " + flags + ", 0)", x.addPage(0, flags, 0), BAD);
            due("addPage(0, 0, " + flags + ")", x.addPage(0, 0, flags), BAD);
        }
        dueOfCount(x, 0, 3);
        dueOfCount(x, 10, 3);
        for (int i = 3; i < 32; i++) {
            due("addPage(0, 0, 0)", x.addPage(0, 0, 0), i);
        }
        due("addPage(0, 0, 0) as the 33rd", x.addPage(0, 0, 0), FULL);
        due("addPage(100, 0, 0) as the 33rd", x.addPage(100, 0, 0), BAD);
        dueOfCount(x, 0, 32);
        due("undo()", x.undo(), 3);
        due("addPage(1, 2, 3) again", x.addPage(1, 2, 3), 31);
    }

    private static void setMood() {
        part = "3";
        PathBook x = book(3, "1>0;1>2");
        due("setMood(1, 7)", x.setMood(1, 7), 2);
        dueOfPage(x, 1, 3, bits(0.7f));
        due("setMood(0, -99)", x.setMood(0, -99), 0);
        due("setMood(2, 99)", x.setMood(2, 99), 0);
        dueOfPage(x, 2, 4, 1);
        due("setMood(2, 0)", x.setMood(2, 0), 0);
        dueOfPage(x, 2, 4, 2);
        due("undo()", x.undo(), 3);
        due("setMood(2, 99) again", x.setMood(2, 99), NONE);
        dueOfCount(x, 10, 3);
        due("setMood(3, 0)", x.setMood(3, 0), UNKNOWN);
        due("setMood(-1, 0)", x.setMood(-1, 0), UNKNOWN);
        due("setMood(MAX, 100)", x.setMood(MAX, 100), UNKNOWN);
        due("setMood(0, 100)", x.setMood(0, 100), BAD);
        due("setMood(0, -100)", x.setMood(0, -100), BAD);
        due("setMood(0, MIN)", x.setMood(0, MIN), BAD);
        dueOfPage(x, 0, 3, bits(-9.9f));
        dueOfCount(x, 10, 3);
    }

    private static void addChoice() {
        part = "4";
        PathBook x = pages(3);
        due("addChoice(0, 1, 31, 0)", x.addChoice(0, 1, 31, 0), 0);
        due("addChoice(0, 0, 0, 31)", x.addChoice(0, 0, 0, 31), 1);
        due("addChoice(0, 2, 3, 5)", x.addChoice(0, 2, 3, 5), 2);
        due("addChoice(2, 2, 1, 1)", x.addChoice(2, 2, 1, 1), 0);
        dueOfChoice(x, 0, 0, 1, 31, 0);
        dueOfChoice(x, 0, 1, 0, 0, 31);
        dueOfChoice(x, 0, 2, 2, 3, 5);
        dueOfChoice(x, 2, 0, 2, 1, 1);
        due("a fourth", x.addChoice(0, 1, 0, 0), FULL);
        due("a fourth with a bad need", x.addChoice(0, 1, 32, 0), BAD);
        due("a fourth to no page", x.addChoice(0, 3, 32, 0), UNKNOWN);
        int[] noPages = {-1, 3, 32, MIN, MAX};
        for (int page : noPages) {
            due("addChoice(" + page + ", 0, 0, 0)", x.addChoice(page, 0, 0, 0), UNKNOWN);
            due("addChoice(1, " + page + ", 0, 0)", x.addChoice(1, page, 0, 0), UNKNOWN);
            due("addChoice(1, " + page + ", 32, 0)", x.addChoice(1, page, 32, 0), UNKNOWN);
        }
        int[] badFlags = {-1, 32, MIN, MAX};
        for (int flags : badFlags) {
            due("addChoice(1, 0, " + flags + ", 0)", x.addChoice(1, 0, flags, 0), BAD);
            due("addChoice(1, 0, 0, " + flags + ")", x.addChoice(1, 0, 0, flags), BAD);
        }
        dueOfPage(x, 1, 0, 0);
        dueOfCount(x, 1, 4);
        due("undo()", x.undo(), 3);
        dueOfPage(x, 2, 0, 0);
        dueOfPage(x, 0, 0, 3);
        for (int left = 2; left >= 0; left--) {
            due("undo()", x.undo(), left);
        }
        dueOfPage(x, 0, 0, 0);
    }

    private static void addChoices() {
        part = "5";
        PathBook x = pages(32);
        write(x, "31>0+abcde-abcde;10>29-e;9>19+ac;0>0+b-d");
        int length = x.count(11);
        due("addChoices()", x.addChoices(), 4);
        dueOfCount(x, 11, length);
        dueOfChoice(x, 31, 0, 0, 31, 31);
        dueOfChoice(x, 10, 0, 29, 0, E);
        dueOfChoice(x, 9, 0, 19, A | C, 0);
        dueOfChoice(x, 0, 0, 0, B, D);
        due("addChoices() again", x.addChoices(), 4);
        dueOfCount(x, 1, 8);
        due("undo()", x.undo(), 3);
        dueOfCount(x, 1, 4);
        dueOfCount(x, 11, length);

        PathBook y = pages(5);
        write(y, "0>0;0>1;0>2;1>0;1>1;1>2;2>0;2>1;2>2;3>0;3>1;3>2;4>0;4>1;4>2");
        dueOfCount(y, 11, 59);
        due("addChoices() of 15", y.addChoices(), 15);
        dueOfCount(y, 1, 15);
        dueOfChoice(y, 4, 2, 2, 0, 0);
        dueOfCount(y, 10, 4);
        due("undo()", y.undo(), 3);
        dueOfCount(y, 1, 0);
        due("type(';')", y.type(';'), 60);
        due("addChoices() of 15 and a sign", y.addChoices(), -160);
        dueOfCount(y, 1, 0);
        dueOfCount(y, 10, 3);
    }

    private static void dueOfFault(String text, int fault) {
        PathBook x = pages(32);
        write(x, text);
        due("addChoices() of '" + text + "'", x.addChoices(), -100 - fault);
        dueOfCount(x, 1, 0);
        dueOfCount(x, 10, 4);
        dueOfCount(x, 11, text.length());
    }

    private static void faults() {
        part = "5, the fault";
        dueOfFault("", 0);
        dueOfFault("0", 1);
        dueOfFault("0>", 2);
        dueOfFault("0>1+", 4);
        dueOfFault("0>1-", 4);
        dueOfFault("0>1+a-", 6);
        dueOfFault("0>1;", 4);
        dueOfFault("0>1;2", 5);
        dueOfFault(";", 0);
        dueOfFault(">", 0);
        dueOfFault(" 0>1", 0);
        dueOfFault("a>1", 0);
        dueOfFault("0 >1", 1);
        dueOfFault("0-1", 1);
        dueOfFault("00>1", 1);
        dueOfFault("01>1", 1);
        dueOfFault("0>01", 3);
        dueOfFault("32>1", 1);
        dueOfFault("0>32", 3);
        dueOfFault("39>1", 1);
        dueOfFault("40>1", 1);
        dueOfFault("99>1", 1);
        dueOfFault("310>1", 2);
        dueOfFault("100>1", 2);
        dueOfFault("0>290", 4);
        dueOfFault("0>>1", 2);
        dueOfFault("0>1>", 3);
        dueOfFault("0>1,1>0", 3);
        dueOfFault("0>1;;1>0", 4);
        dueOfFault("0>1+f", 4);
        dueOfFault("0>1+A", 4);
        dueOfFault("0>1+-a", 4);
        dueOfFault("0>1+;", 4);
        dueOfFault("0>1+aa", 5);
        dueOfFault("0>1+ba", 5);
        dueOfFault("0>1+ef", 5);
        dueOfFault("0>1+a+b", 5);
        dueOfFault("0>1-a+b", 5);
        dueOfFault("0>1-a-b", 5);
        dueOfFault("0>1-db", 5);
        dueOfFault("0>1-`", 4);
        dueOfFault("0>1-a;1>2+abd-ec", 15);
        dueOfFault("0>1 ", 3);
        dueOfFault("0>1;1>2x3>4", 7);
        dueOfFault("/>1", 0);
        dueOfFault(":>1", 0);
        dueOfFault("1:>1", 1);
        dueOfFault("\u0661>1", 0);
        dueOfFault("0>1+\u0161", 4);
        dueOfFault("0>1+\uff41", 4);
        dueOfFault("0>1\uffff", 3);
        dueOfFault("0>1\u0000", 3);
    }

    private static void dueOfRefusal(PathBook x, String text, int error) {
        int choices = x.count(1);
        int states = x.count(10);
        write(x, text);
        due("addChoices() of '" + text + "'", x.addChoices(), error);
        dueOfCount(x, 1, choices);
        dueOfCount(x, 10, states);
        dueOfCount(x, 11, text.length());
    }

    private static void addChoicesAllOrNone() {
        part = "5, all or none";
        PathBook x = pages(2);
        dueOfRefusal(x, "0>1;0>2", UNKNOWN);
        dueOfRefusal(x, "2>1;0>1", UNKNOWN);
        dueOfRefusal(x, "0>1;0>1;0>1;0>1", FULL);
        dueOfRefusal(x, "0>1;0>1;0>1;0>1;2>0", FULL);
        dueOfRefusal(x, "0>1;0>1;0>1;0>2", UNKNOWN);
        dueOfRefusal(x, "0>1;0>1;0>1;2>0;0>1", UNKNOWN);
        dueOfRefusal(x, "0>2;0>1;", -108);
        x.addChoice(0, 0, 0, 0);
        dueOfRefusal(x, "0>1;1>0;0>1;0>1", FULL);
        write(x, "0>1;1>0;0>1");
        due("addChoices()", x.addChoices(), 3);
        dueOfPage(x, 0, 0, 3);
        dueOfPage(x, 1, 0, 1);

        // A refused text must not cost the history its oldest state.
        PathBook y = pages(4);
        dueOfRefusal(y, "0>1;0>1;0>1;0>1", FULL);
        for (int left = 3; left >= 0; left--) {
            due("undo()", y.undo(), left);
            dueOfCount(y, 0, left);
        }
    }

    private static void takeChoice() {
        part = "6";
        PathBook x = book(4, "0>1+a-b;0>2+b-c;0>3+c-d;1>2;1>3");
        due("takeChoice(0, 0)", x.takeChoice(0, 0), 1);
        dueOfPage(x, 0, 0, 2);
        dueOfChoice(x, 0, 0, 2, B, C);
        dueOfChoice(x, 0, 1, 3, C, D);
        due("choice(0, 2, 0)", x.choice(0, 2, 0), UNKNOWN);
        due("takeChoice(0, 2)", x.takeChoice(0, 2), UNKNOWN);
        due("takeChoice(0, 1)", x.takeChoice(0, 1), 3);
        dueOfChoice(x, 0, 0, 2, B, C);
        due("takeChoice(0, 0)", x.takeChoice(0, 0), 2);
        dueOfPage(x, 0, 0, 0);
        dueOfPage(x, 0, 4, 2);
        due("takeChoice(0, 0)", x.takeChoice(0, 0), UNKNOWN);
        due("takeChoice(0, -1)", x.takeChoice(0, -1), UNKNOWN);
        due("takeChoice(-1, 0)", x.takeChoice(-1, 0), UNKNOWN);
        due("takeChoice(4, 0)", x.takeChoice(4, 0), UNKNOWN);
        due("takeChoice(MAX, MIN)", x.takeChoice(MAX, MIN), UNKNOWN);
        due("takeChoice(1, MAX)", x.takeChoice(1, MAX), UNKNOWN);
        dueOfChoice(x, 1, 0, 2, 0, 0);
        dueOfChoice(x, 1, 1, 3, 0, 0);
        dueOfCount(x, 10, 4);
        due("undo()", x.undo(), 3);
        due("undo()", x.undo(), 2);
        due("undo()", x.undo(), 1);
        dueOfChoice(x, 0, 2, 3, C, D);
        due("takeChoice(0, 1)", x.takeChoice(0, 1), 2);
        dueOfChoice(x, 0, 0, 1, A, B);
        dueOfChoice(x, 0, 1, 3, C, D);
        due("addChoice(0, 0, 0, 0)", x.addChoice(0, 0, 0, 0), 2);
        dueOfChoice(x, 0, 2, 0, 0, 0);
    }

    private static void exchange() {
        part = "7";
        PathBook x = new PathBook();
        x.addPage(1, 1, 2);
        x.addPage(2, 4, 8);
        x.addPage(3, 16, 0);
        write(x, "0>1+a;0>0-b;1>2;2>0;2>2;2>1");
        x.addChoices();
        x.begin(0);
        x.mark(0);
        x.choose(0, 0);
        x.begin(1);
        due("exchange(0, 2)", x.exchange(0, 2), 4);
        dueOfPage(x, 0, 0, 3);
        dueOfPage(x, 0, 1, 16);
        dueOfPage(x, 0, 2, 0);
        dueOfPage(x, 0, 3, bits(0.3f));
        dueOfPage(x, 2, 0, 2);
        dueOfPage(x, 2, 1, 1);
        dueOfPage(x, 2, 2, 2);
        dueOfPage(x, 2, 3, bits(0.1f));
        dueOfPage(x, 1, 1, 4);
        dueOfChoice(x, 2, 0, 1, A, 0);
        dueOfChoice(x, 2, 1, 2, 0, B);
        dueOfChoice(x, 1, 0, 0, 0, 0);
        dueOfChoice(x, 0, 0, 2, 0, 0);
        dueOfChoice(x, 0, 1, 0, 0, 0);
        dueOfChoice(x, 0, 2, 1, 0, 0);
        dueOfReader(x, 0, 1, A | C, 1, 1);
        dueOfReader(x, 1, 2, A, 3, 0);
        due("goToMark(0)", x.goToMark(0), 2);
        due("reader(0, 1)", x.reader(0, 1), A);
        due("begin(1)", x.begin(1), E);
        due("reader(1, 0)", x.reader(1, 0), 0);
        due("exchange(1, 1)", x.exchange(1, 1), NONE);
        due("exchange(3, 3)", x.exchange(3, 3), UNKNOWN);
        due("exchange(-1, 0)", x.exchange(-1, 0), UNKNOWN);
        due("exchange(0, -1)", x.exchange(0, -1), UNKNOWN);
        due("exchange(0, 3)", x.exchange(0, 3), UNKNOWN);
        due("exchange(MAX, 0)", x.exchange(MAX, 0), UNKNOWN);
        due("exchange(0, MIN)", x.exchange(0, MIN), UNKNOWN);
        dueOfCount(x, 10, 4);
        due("undo() of begin", x.undo(), 3);
        due("undo() of goToMark", x.undo(), 2);
        due("undo() of exchange", x.undo(), 1);
        dueOfPage(x, 0, 1, 1);
        dueOfReader(x, 1, 0, A, 3, 0);

        PathBook y = pages(32);
        due("exchange of pages that nothing leads to", y.exchange(31, 30), 0);
        dueOfCount(y, 10, 4);
        y.addChoice(31, 31, 0, 0);
        y.addChoice(31, 0, 0, 0);
        due("exchange(31, 5)", y.exchange(31, 5), 1);
        dueOfChoice(y, 5, 0, 5, 0, 0);
        dueOfChoice(y, 5, 1, 0, 0, 0);
        dueOfPage(y, 31, 0, 0);
        y.begin(0);
        due("exchange(5, 0)", y.exchange(5, 0), 2);
        due("reader(0, 0)", y.reader(0, 0), 5);
        dueOfChoice(y, 0, 0, 0, 0, 0);
        dueOfChoice(y, 0, 1, 5, 0, 0);
        dueOfPage(y, 5, 5, 0);
    }

    private static void begin() {
        part = "8";
        PathBook x = new PathBook();
        due("begin(0)", x.begin(0), NOT);
        due("begin(2)", x.begin(2), UNKNOWN);
        due("begin(-1)", x.begin(-1), UNKNOWN);
        due("begin(MIN)", x.begin(MIN), UNKNOWN);
        dueOfCount(x, 10, 0);
        x.addPage(0, 5, 7);
        x.addPage(0, 2, 5);
        x.addChoice(0, 1, 0, 0);
        due("begin(0)", x.begin(0), 5);
        dueOfReader(x, 0, 0, 5, 1, 0);
        due("reader(1, 0)", x.reader(1, 0), NONE);
        x.choose(0, 0);
        dueOfReader(x, 0, 1, 2, 0, 1);
        due("begin(0)", x.begin(0), 5);
        dueOfReader(x, 0, 0, 5, 1, 0);
        due("begin(0) again", x.begin(0), 5);
        due("undo()", x.undo(), 3);
        due("undo()", x.undo(), 2);
        dueOfReader(x, 0, 1, 2, 0, 1);
        due("begin(1)", x.begin(1), 5);
        dueOfReader(x, 1, 0, 5, 1, 0);
        dueOfReader(x, 0, 1, 2, 0, 1);
    }

    private static void choose() {
        part = "9";
        PathBook x = new PathBook();
        x.addPage(0, A | B, 0);
        x.addPage(0, C, A);
        x.addPage(0, E, E | C);
        write(x, "0>1+ab-c;0>2+c;0>0-b;1>2+bc;1>1+a;2>2-a;2>0");
        x.addChoices();
        due("choose(0, 0) ahead of begin", x.choose(0, 0), NOT);
        x.begin(0);
        due("choose(0, 1)", x.choose(0, 1), NOT);
        due("choose(0, 2)", x.choose(0, 2), NOT);
        due("choose(1, 0)", x.choose(1, 0), NOT);
        dueOfReader(x, 0, 0, A | B, 1, 0);
        due("choose(0, 0)", x.choose(0, 0), 1);
        dueOfReader(x, 0, 1, B | C, 1, 1);
        due("choose(0, 1)", x.choose(0, 1), NOT);
        due("choose(0, 2)", x.choose(0, 2), NOT);
        due("choose(0, 0)", x.choose(0, 0), 2);
        dueOfReader(x, 0, 2, B | E, 3, 2);
        due("choose(0, 0)", x.choose(0, 0), 2);
        dueOfReader(x, 0, 2, B | E, 3, 3);
        due("choose(0, 1)", x.choose(0, 1), 0);
        dueOfReader(x, 0, 0, A | B | E, 1, 4);
        dueOfCount(x, 10, 4);
        due("choose(2, 3)", x.choose(2, 3), UNKNOWN);
        due("choose(-1, 0)", x.choose(-1, 0), UNKNOWN);
        due("choose(0, 3)", x.choose(0, 3), BAD);
        due("choose(0, -1)", x.choose(0, -1), BAD);
        due("choose(1, MAX)", x.choose(1, MAX), BAD);
        due("undo()", x.undo(), 3);
        dueOfReader(x, 0, 2, B | E, 3, 3);
    }

    private static void mark() {
        part = "10";
        PathBook x = new PathBook();
        x.addPage(0, 0, 0);
        x.addPage(0, A, 0);
        write(x, "0>1;1>0");
        x.addChoices();
        due("mark(0)", x.mark(0), NOT);
        due("mark(2)", x.mark(2), UNKNOWN);
        due("mark(-1)", x.mark(-1), UNKNOWN);
        dueOfCount(x, 9, 0);
        x.begin(0);
        due("mark(1)", x.mark(1), NOT);
        due("mark(0)", x.mark(0), 0);
        dueOfCount(x, 9, 1);
        due("mark(0) again", x.mark(0), NONE);
        x.begin(1);
        due("mark(1) of the same place", x.mark(1), NONE);
        x.choose(0, 0);
        due("mark(0)", x.mark(0), 1);
        x.choose(0, 0);
        due("mark(0) with another flag", x.mark(0), 0);
        dueOfCount(x, 10, 4);
        due("mark(0) again", x.mark(0), NONE);
        dueOfCount(x, 10, 4);
        due("undo()", x.undo(), 3);
        due("goToMark(1)", x.goToMark(1), 1);
    }

    private static void goToMark() {
        part = "11";
        PathBook x = new PathBook();
        x.addPage(0, 0, 0);
        x.addPage(0, A, 0);
        write(x, "0>1;1>0");
        x.addChoices();
        due("goToMark(0)", x.goToMark(0), NOT);
        due("goToMark(2)", x.goToMark(2), UNKNOWN);
        due("goToMark(-1)", x.goToMark(-1), UNKNOWN);
        x.begin(0);
        due("goToMark(0)", x.goToMark(0), NOT);
        x.choose(0, 0);
        x.mark(0);
        due("goToMark(0) at the place", x.goToMark(0), NONE);
        dueOfReader(x, 0, 1, A, 1, 1);
        due("goToMark(1)", x.goToMark(1), 1);
        dueOfReader(x, 1, 1, A, 1, 0);
        dueOfCount(x, 9, 1);
        x.choose(1, 0);
        x.choose(1, 0);
        dueOfReader(x, 1, 1, A, 1, 2);
        due("goToMark(1) back at the place", x.goToMark(1), NONE);
        x.choose(1, 0);
        due("goToMark(1)", x.goToMark(1), 1);
        dueOfReader(x, 1, 1, A, 1, 0);
        due("undo()", x.undo(), 3);
        dueOfReader(x, 1, 0, A, 1, 3);

        // The same page with other flags is another place.
        x.mark(1);
        x.begin(0);
        dueOfReader(x, 0, 0, 0, 1, 0);
        due("goToMark(0)", x.goToMark(0), 0);
        dueOfReader(x, 0, 0, A, 1, 0);
    }

    private static void type() {
        part = "12";
        PathBook x = new PathBook();
        char[] odd = {'0', ' ', '\n', (char) 0, (char) 255, (char) 256, (char) 65535};
        for (int i = 0; i < odd.length; i++) {
            due("type((char) " + (int) odd[i] + ")", x.type(odd[i]), i + 1);
        }
        for (int i = odd.length + 1; i <= 60; i++) {
            due("type('x')", x.type('x'), i);
        }
        due("type('x') as the 61st", x.type('x'), FULL);
        dueOfCount(x, 11, 60);
        dueOfCount(x, 10, 0);
        due("undo()", x.undo(), NONE);
        dueOfCount(x, 11, 60);

        // 60 signs that are read to the last one.
        PathBook y = pages(31);
        write(y, "30>30+abcde-abcde;30>30+abcde-abcde;30>30+abcde-abcde;0>0-ab");
        dueOfCount(y, 11, 60);
        due("addChoices()", y.addChoices(), 4);
        dueOfChoice(y, 0, 0, 0, 0, A | B);
        dueOfCount(y, 10, 4);
    }

    private static void clearText() {
        part = "13";
        PathBook x = pages(2);
        due("clearText()", x.clearText(), 0);
        write(x, "0>1+a");
        due("clearText()", x.clearText(), 5);
        dueOfCount(x, 11, 0);
        due("addChoices()", x.addChoices(), -100);
        due("type('0')", x.type('0'), 1);
        due("addChoices()", x.addChoices(), -101);
        due("clearText()", x.clearText(), 1);
        dueOfCount(x, 10, 2);
        dueOfCount(x, 0, 2);
        for (int i = 0; i < 60; i++) {
            x.type('>');
        }
        due("clearText()", x.clearText(), 60);
        due("type('>')", x.type('>'), 1);
    }

    private static void undo() {
        part = "14";
        PathBook x = new PathBook();
        due("undo()", x.undo(), NONE);
        for (int i = 0; i < 3; i++) {
            x.addPage(i, 0, 0);
        }
        dueOfCount(x, 10, 3);
        x.addPage(3, 0, 0);
        dueOfCount(x, 10, 4);
        x.addPage(4, 0, 0);
        x.addPage(5, 0, 0);
        dueOfCount(x, 10, 4);
        for (int left = 3; left >= 0; left--) {
            due("undo()", x.undo(), left);
            dueOfCount(x, 0, 2 + left);
        }
        due("undo()", x.undo(), NONE);
        dueOfCount(x, 0, 2);

        // What is undone is gone: the history goes on from there.
        x.setMood(0, 9);
        x.setMood(0, 8);
        due("undo()", x.undo(), 1);
        x.setMood(0, 7);
        due("undo()", x.undo(), 1);
        dueOfPage(x, 0, 3, bits(0.9f));
        due("undo()", x.undo(), 0);
        dueOfPage(x, 0, 3, bits(0.0f));
    }

    private static void undoBringsBackEverything() {
        part = "14, everything";
        PathBook x = new PathBook();
        x.addPage(1, A, 0);
        x.addPage(2, B, A);
        write(x, "0>1+a-b;0>0;1>0;1>1");
        x.addChoices();
        x.begin(0);
        x.mark(0);
        x.choose(0, 0);
        write(x, "1>1");
        x.keep();
        x.exchange(0, 1);
        x.goToMark(1);
        x.choose(1, 0);
        x.mark(1);
        due("undo()", x.undo(), 3);
        due("undo()", x.undo(), 2);
        due("undo()", x.undo(), 1);
        due("reader(1, 0)", x.reader(1, 0), NONE);
        due("undo()", x.undo(), 0);
        dueOfPage(x, 0, 1, A);
        dueOfPage(x, 1, 2, A);
        dueOfPage(x, 1, 3, bits(0.2f));
        dueOfChoice(x, 0, 0, 1, A, B);
        dueOfChoice(x, 1, 0, 0, 0, 0);
        dueOfReader(x, 0, 1, B, 3, 1);
        due("goToMark(1)", x.goToMark(1), 0);
        dueOfReader(x, 1, 0, A, 3, 0);
        due("undo()", x.undo(), 0);
        due("reader(1, 0)", x.reader(1, 0), NONE);

        // The text and the snapshot are no part of a state.
        dueOfCount(x, 11, 3);
        due("restore()", x.restore(), 2);
        dueOfReader(x, 0, 1, B, 3, 1);

        // What is told of places follows the undo.
        PathBook y = pages(2);
        y.setMood(1, 5);
        y.addChoice(0, 1, 0, 0);
        dueOfCount(y, 8, 1);
        dueOfCount(y, 2, 0);
        y.undo();
        dueOfCount(y, 8, NONE);
        dueOfCount(y, 2, 1);
    }

    private static void keep() {
        part = "15";
        PathBook x = new PathBook();
        due("keep()", x.keep(), 0);
        x.addPage(1, 0, 0);
        due("restore()", x.restore(), 0);
        dueOfCount(x, 0, 0);
        x.undo();
        dueOfCount(x, 0, 1);
        x.addPage(2, 0, 0);
        int states = x.count(10);
        due("keep()", x.keep(), 2);
        dueOfCount(x, 10, states);
        x.setMood(0, 9);
        due("restore()", x.restore(), 2);
        dueOfPage(x, 0, 3, bits(0.1f));
        x.setMood(0, 8);
        due("keep()", x.keep(), 2);
        x.setMood(0, 7);
        x.restore();
        dueOfPage(x, 0, 3, bits(0.8f));
        for (int i = 0; i < 4; i++) {
            x.undo();
        }
        due("restore() behind all undos", x.restore(), 2);
        dueOfPage(x, 0, 3, bits(0.8f));
    }

    private static void restore() {
        part = "16";
        PathBook x = new PathBook();
        due("restore()", x.restore(), NONE);
        dueOfCount(x, 10, 0);
        x.addPage(1, A, 0);
        x.addPage(2, 0, 0);
        x.addChoice(0, 1, A, B);
        x.begin(0);
        x.choose(0, 0);
        x.mark(0);
        x.keep();
        write(x, "0>0");
        x.undo();
        x.addPage(3, 0, 0);
        x.takeChoice(0, 0);
        x.begin(1);
        x.begin(0);
        due("restore()", x.restore(), 2);
        dueOfCount(x, 10, 4);
        dueOfCount(x, 11, 3);
        dueOfCount(x, 9, 1);
        dueOfChoice(x, 0, 0, 1, A, B);
        dueOfReader(x, 0, 1, A, 0, 1);
        due("reader(1, 0)", x.reader(1, 0), NONE);
        dueOfCount(x, 8, 1);
        due("goToMark(1)", x.goToMark(1), 1);
        due("restore() again", x.restore(), 2);
        due("reader(1, 0)", x.reader(1, 0), NONE);
        due("restore() without a change", x.restore(), 2);
        dueOfCount(x, 10, 4);
        due("undo()", x.undo(), 3);
        due("undo()", x.undo(), 2);
        due("reader(1, 0)", x.reader(1, 0), 1);
        due("undo()", x.undo(), 1);
        due("undo()", x.undo(), 0);
        dueOfCount(x, 0, 3);
        dueOfReader(x, 0, 0, A, 0, 0);
        dueOfReader(x, 1, 0, A, 0, 0);
    }

    private static void page() {
        part = "17";
        // 0 sets a; 1 takes a and sets b; 2 and 3 are ends; 4 and 5 are dead.
        PathBook x = new PathBook();
        x.addPage(-5, A, A);
        x.addPage(0, B, A | C);
        x.addPage(1, 0, 0);
        x.addPage(0, 0, 0);
        x.addPage(50, 0, 0);
        x.addPage(-99, 31, 31);
        write(x, "0>1;0>2+ab;1>0-c;1>3+e;4>2;4>4;4>5+a");
        x.addChoices();
        int[][] due = {
            {2, A, A, bits(-0.5f), 0, 0, 1, 0, 2, 0, 1},
            {2, B, A | C, bits(0.0f), 0, 0, 1, 0, 1, 1, 1},
            {0, 0, 0, bits(0.1f), 1, 0, 0, 0, 1, 3, 2},
            {0, 0, 0, bits(0.0f), 2, 1, 0, 0, 0, NONE, 1},
            {3, 0, 0, bits(5.0f), 0, 1, 0, 0, 0, NONE, 1},
            {0, 31, 31, bits(-9.9f), 2, 1, 0, 0, 0, NONE, 1},
        };
        for (int page = 0; page < due.length; page++) {
            for (int what = 0; what <= 10; what++) {
                dueOfPage(x, page, what, due[page][what]);
            }
        }
        int[] noPages = {-1, 6, 32, MIN, MAX};
        for (int page : noPages) {
            dueOfPage(x, page, 0, UNKNOWN);
            dueOfPage(x, page, 11, UNKNOWN);
        }
        int[] badWhats = {-1, 11, MIN, MAX};
        for (int what : badWhats) {
            dueOfPage(x, 0, what, BAD);
        }
        due("setMood(3, -1)", x.setMood(3, -1), 0);
        dueOfPage(x, 3, 4, 2);

        PathBook y = pages(1);
        for (int tenths = -99; tenths <= 99; tenths++) {
            y.setMood(0, tenths);
            dueOfPage(y, 0, 3, bits((float) tenths / 10.0f));
        }
    }

    private static void comesAgain() {
        part = "17, comes again";
        // A loop of two pages, and a choice of 0 to itself that is open on its second coming alone.
        PathBook x = new PathBook();
        x.addPage(0, 0, 0);
        x.addPage(0, A, 0);
        write(x, "0>1;1>0-b;0>0+a");
        x.addChoices();
        dueOfPage(x, 0, 6, 1);
        dueOfPage(x, 1, 6, 1);
        dueOfCount(x, 3, 2);

        // 1 is come to twice, with other flags, and never at the same place.
        PathBook y = new PathBook();
        y.addPage(0, 0, 0);
        y.addPage(0, 0, 0);
        y.addPage(0, A, 0);
        y.addPage(0, 0, 0);
        write(y, "0>1;1>2-a;1>3+a;2>1");
        y.addChoices();
        dueOfPage(y, 0, 6, 0);
        dueOfPage(y, 1, 6, 1);
        dueOfPage(y, 2, 6, 0);
        dueOfPage(y, 3, 6, 0);
        dueOfPage(y, 1, 8, 2);
        dueOfCount(y, 3, 1);

        // Two places with one page, neither of which leads to the other.
        PathBook z = new PathBook();
        z.addPage(0, 0, 0);
        z.addPage(0, A, 0);
        z.addPage(0, 0, 0);
        write(z, "0>2;0>1;1>2");
        z.addChoices();
        dueOfPage(z, 2, 8, 2);
        dueOfPage(z, 2, 6, 0);
        dueOfCount(z, 3, 0);

        // A loop that is dead does not come again; a choice to the same page does.
        PathBook w = book(3, "1>2;2>1;0>0");
        dueOfPage(w, 0, 6, 1);
        dueOfPage(w, 1, 6, 0);
        dueOfPage(w, 2, 6, 0);

        // The highest page counts as the others do.
        PathBook v = pages(32);
        write(v, "0>31;31>30;30>31");
        v.addChoices();
        dueOfPage(v, 31, 6, 1);
        dueOfPage(v, 30, 6, 1);
        dueOfCount(v, 3, 2);
        dueOfCount(v, 4, 3);
    }

    private static void stuck() {
        part = "17, stuck";
        PathBook x = new PathBook();
        x.addPage(0, 0, 0);
        x.addPage(0, A, 0);
        x.addPage(0, 0, 0);
        x.addPage(0, 0, 0);
        write(x, "0>1;0>2;1>2;2>3-a;2>2+a");
        x.addChoices();
        dueOfPage(x, 0, 7, 0);
        dueOfPage(x, 1, 7, 1);
        dueOfPage(x, 2, 7, 1);
        dueOfPage(x, 3, 7, 0);
        dueOfPage(x, 2, 8, 2);
        dueOfCount(x, 4, 2);
        due("takeChoice(2, 1)", x.takeChoice(2, 1), 2);
        dueOfCount(x, 4, 2);
        dueOfPage(x, 2, 7, 1);
        due("takeChoice(2, 0)", x.takeChoice(2, 0), 3);
        dueOfCount(x, 4, 0);
        dueOfPage(x, 2, 7, 0);
        dueOfCount(x, 6, 1);

        // None of whose choices can be taken; and an end that is dead saves nobody.
        PathBook y = book(2, "0>1+a");
        dueOfPage(y, 0, 7, 1);
        dueOfPage(y, 1, 7, 0);
        dueOfCount(y, 4, 1);
        dueOfCount(y, 6, 0);

        // What is told follows each change: an end that becomes a loop, a loop that is opened.
        PathBook w = book(2, "0>1");
        dueOfCount(w, 3, 0);
        dueOfCount(w, 4, 0);
        w.addChoice(1, 0, 0, 0);
        dueOfCount(w, 3, 2);
        dueOfCount(w, 4, 2);
        dueOfCount(w, 6, 0);
        w.takeChoice(1, 0);
        dueOfCount(w, 3, 0);
        dueOfCount(w, 4, 0);
        dueOfPage(w, 0, 6, 0);
        w.addChoice(1, 1, 0, 0);
        dueOfPage(w, 0, 7, 1);
        dueOfPage(w, 0, 6, 0);
        dueOfPage(w, 1, 6, 1);

        // The highest page is the only end.
        PathBook z = pages(32);
        z.addChoice(0, 31, 0, 0);
        dueOfPage(z, 0, 7, 0);
        dueOfCount(z, 4, 0);
        dueOfCount(z, 6, 1);
    }

    private static void choice() {
        part = "18";
        PathBook x = new PathBook();
        x.addPage(0, A, 0);
        x.addPage(0, B, 0);
        x.addPage(0, 0, 0);
        write(x, "0>1+a;0>0+b-a;0>2-c;1>0+ab;2>1");
        x.addChoices();
        dueOfChoice(x, 0, 0, 1, A, 0);
        dueOfChoice(x, 0, 1, 0, B, A);
        dueOfChoice(x, 0, 2, 2, 0, C);
        dueOfChoice(x, 1, 0, 0, A | B, 0);
        due("choice(0, 0, 3)", x.choice(0, 0, 3), 1);
        due("choice(0, 1, 3)", x.choice(0, 1, 3), 0);
        due("choice(0, 2, 3)", x.choice(0, 2, 3), 1);
        due("choice(1, 0, 3)", x.choice(1, 0, 3), 1);
        due("choice(2, 0, 3)", x.choice(2, 0, 3), 1);
        x.takeChoice(0, 2);
        due("choice(2, 0, 3) of a dead page", x.choice(2, 0, 3), 0);
        // b is there at page 0 only on the second coming.
        x.addChoice(0, 2, B, 0);
        due("choice(0, 2, 3)", x.choice(0, 2, 3), 1);
        due("choice(2, 0, 3)", x.choice(2, 0, 3), 1);
        PathBook y = book(2, "0>1-abcde;0>1+e");
        due("choice(0, 0, 3) without a flag", y.choice(0, 0, 3), 1);
        due("choice(0, 1, 3) without a flag", y.choice(0, 1, 3), 0);
        due("choice(0, 3, 0)", x.choice(0, 3, 0), UNKNOWN);
        due("choice(1, 1, 0)", x.choice(1, 1, 0), UNKNOWN);
        due("choice(1, 1, 4)", x.choice(1, 1, 4), UNKNOWN);
        due("choice(0, -1, 0)", x.choice(0, -1, 0), UNKNOWN);
        due("choice(-1, 0, 0)", x.choice(-1, 0, 0), UNKNOWN);
        due("choice(3, 0, 0)", x.choice(3, 0, 0), UNKNOWN);
        due("choice(MAX, MAX, MAX)", x.choice(MAX, MAX, MAX), UNKNOWN);
        due("choice(0, 0, 4)", x.choice(0, 0, 4), BAD);
        due("choice(0, 0, -1)", x.choice(0, 0, -1), BAD);
        due("choice(0, 0, MIN)", x.choice(0, 0, MIN), BAD);
    }

    private static void reader() {
        part = "19";
        PathBook x = new PathBook();
        x.addPage(0, E, 0);
        x.addPage(0, D, E);
        write(x, "0>0+e;0>1-d;0>1+de;1>0");
        x.addChoices();
        dueOfReader(x, 0, NONE, NONE, NONE, NONE);
        due("reader(0, 4) ahead of begin", x.reader(0, 4), BAD);
        due("reader(2, 4)", x.reader(2, 4), UNKNOWN);
        due("reader(-1, 0)", x.reader(-1, 0), UNKNOWN);
        due("reader(MAX, 0)", x.reader(MAX, 0), UNKNOWN);
        x.begin(1);
        dueOfReader(x, 1, 0, E, 3, 0);
        dueOfReader(x, 0, NONE, NONE, NONE, NONE);
        x.choose(1, 1);
        dueOfReader(x, 1, 1, D, 1, 1);
        x.choose(1, 0);
        dueOfReader(x, 1, 0, D | E, 5, 2);
        x.choose(1, 2);
        dueOfReader(x, 1, 1, D, 1, 3);
        due("reader(1, -1)", x.reader(1, -1), BAD);
        due("reader(1, 4)", x.reader(1, 4), BAD);
        due("reader(1, MIN)", x.reader(1, MIN), BAD);
        for (int i = 0; i < 100; i++) {
            x.choose(1, 0);
        }
        due("reader(1, 3)", x.reader(1, 3), 103);
    }

    private static void why() {
        part = "20";
        PathBook x = new PathBook();
        due("why(0, 0) without pages", x.why(0, 0), 1);
        x.addPage(0, A, 0);
        x.addPage(0, B, 0);
        write(x, "0>1;0>1+ab-a;0>1+a-ab;1>0+ab;1>0-c");
        x.addChoices();
        due("why(0, 2) ahead of begin", x.why(0, 2), 1);
        x.begin(0);
        due("why(0, 0)", x.why(0, 0), 0);
        due("why(0, 1): missing comes ahead of barred", x.why(0, 1), 3);
        due("why(0, 2)", x.why(0, 2), 4);
        due("why(1, 0)", x.why(1, 0), 1);
        x.choose(0, 0);
        due("why(0, 0)", x.why(0, 0), 0);
        due("why(0, 1)", x.why(0, 1), 0);
        due("why(0, 2)", x.why(0, 2), 2);
        due("why(2, 3)", x.why(2, 3), UNKNOWN);
        due("why(-1, 0)", x.why(-1, 0), UNKNOWN);
        due("why(0, 3)", x.why(0, 3), BAD);
        due("why(0, -1)", x.why(0, -1), BAD);
        due("why(1, MAX)", x.why(1, MAX), BAD);
        dueOfCount(x, 10, 4);
    }

    private static void way() {
        part = "21";
        // The key is at page 1; the door from 0 to 3 wants it.
        PathBook x = new PathBook();
        x.addPage(10, 0, 0);
        x.addPage(-20, A, 0);
        x.addPage(-5, 0, 0);
        x.addPage(7, 0, A);
        write(x, "0>3+a;0>2;0>1;1>0;1>2");
        x.addChoices();
        dueOfStep(x, 0, 0, 0, 2);
        dueOfStep(x, 1, 1, A, 0);
        dueOfStep(x, 2, 0, A, 0);
        dueOfStep(x, 3, 3, 0, NONE);
        dueOfStep(x, 4, NONE, NONE, NONE);
        dueOfStep(x, MAX, NONE, NONE, NONE);
        dueOfCount(x, 8, 3);
        due("way(-1, 0)", x.way(-1, 0), BAD);
        due("way(MIN, 0)", x.way(MIN, 0), BAD);
        due("way(0, 3)", x.way(0, 3), BAD);
        due("way(0, -1)", x.way(0, -1), BAD);
        due("way(9, MAX)", x.way(9, MAX), BAD);

        // A happy end is an end: its mood alone does not do.
        x.addChoice(3, 2, 0, 0);
        dueOfStep(x, 0, NONE, NONE, NONE);
        due("way(0, 3) without a way", x.way(0, 3), BAD);
        due("way(-1, 0) without a way", x.way(-1, 0), BAD);
        x.setMood(2, 1);
        dueOfStep(x, 0, 0, 0, 1);
        dueOfStep(x, 1, 2, 0, NONE);

        // The first place may be the whole way.
        PathBook y = new PathBook();
        y.addPage(1, C, 0);
        dueOfStep(y, 0, 0, C, NONE);
        dueOfStep(y, 1, NONE, NONE, NONE);
        dueOfCount(y, 8, 0);
        dueOfCount(y, 6, 1);
        dueOfCount(y, 7, 1);
        y.setMood(0, 0);
        dueOfStep(y, 0, NONE, NONE, NONE);
        dueOfCount(y, 8, NONE);
    }

    private static void wayOfSeveral() {
        part = "21, of several";
        // Two happy ends at the same length: the first choice decides, then the second.
        PathBook x = book(6, "0>2;0>1;1>3;1>4;2>5;2>4");
        x.setMood(3, 1);
        x.setMood(4, 1);
        dueOfStep(x, 0, 0, 0, 0);
        dueOfStep(x, 1, 2, 0, 1);
        dueOfStep(x, 2, 4, 0, NONE);
        x.setMood(5, 1);
        dueOfStep(x, 1, 2, 0, 0);
        dueOfStep(x, 2, 5, 0, NONE);
        x.setMood(4, 0);
        x.setMood(5, 0);
        dueOfStep(x, 0, 0, 0, 1);
        dueOfStep(x, 1, 1, 0, 0);
        dueOfStep(x, 2, 3, 0, NONE);

        // Two choices to the same page: the lower one.
        PathBook y = book(2, "0>1+a;0>1;0>1");
        y.setMood(1, 99);
        dueOfStep(y, 0, 0, 0, 1);
        due("takeChoice(0, 1)", y.takeChoice(0, 1), 1);
        dueOfStep(y, 0, 0, 0, 1);

        // Fewer choices go ahead of lower ones.
        PathBook z = book(4, "0>1;0>2;0>3;1>3");
        z.setMood(3, 1);
        dueOfStep(z, 0, 0, 0, 2);
        dueOfCount(z, 8, 1);
    }

    private static void wayMood() {
        part = "22";
        PathBook x = new PathBook();
        due("wayMood()", x.wayMood(), NONE);
        int[] tenths = {1, 2, -3, 7, 99, -99, 1, 3};
        float sum = 0.0f;
        for (int i = 0; i < tenths.length; i++) {
            x.addPage(tenths[i], 0, 0);
            sum += (float) tenths[i] / 10.0f;
        }
        due("wayMood()", x.wayMood(), bits(0.1f));
        write(x, "0>1;1>2;2>3;3>4;4>5;5>6;6>7");
        x.addChoices();
        due("wayMood()", x.wayMood(), bits(sum));
        x.setMood(7, -3);
        due("wayMood()", x.wayMood(), NONE);

        // The order of a float sum tells: from the last page on it would be another one.
        PathBook y = new PathBook();
        float forth = 0.0f;
        int[] moods = {99, -98, 1, -1, 37, -38, 1};
        for (int i = 0; i < moods.length; i++) {
            y.addPage(moods[i], 0, 0);
            forth += (float) moods[i] / 10.0f;
        }
        float back = 0.0f;
        for (int i = moods.length - 1; i >= 0; i--) {
            back += (float) moods[i] / 10.0f;
        }
        due("the sums differ", bits(forth) == bits(back) ? 1 : 0, 0);
        write(y, "0>1;1>2;2>3;3>4;4>5;5>6");
        y.addChoices();
        due("wayMood()", y.wayMood(), bits(forth));

        // A sum of nothing, and one below nothing.
        PathBook z = book(2, "0>1");
        z.setMood(1, 5);
        z.setMood(0, -5);
        due("wayMood()", z.wayMood(), 0);
        z.setMood(0, -15);
        due("wayMood()", z.wayMood(), bits(-1.0f));
    }

    private static void count() {
        part = "23";
        // 0 and 1 go round, 2 is a happy end, 3 another, 4 is stuck, 5 to 7 are dead, 6 and 7 ends.
        PathBook x = new PathBook();
        int[] moods = {0, 0, 10, -10, 0, 0, 10, 0};
        for (int i = 0; i < moods.length; i++) {
            x.addPage(moods[i], i == 1 ? A : 0, 0);
        }
        write(x, "0>1;1>0;0>3+a;1>2;1>4;4>4;5>6");
        x.addChoices();
        x.begin(0);
        x.mark(0);
        int[] due = {8, 7, 3, 3, 1, 6, 2, 1, 2, 1, 4, 29};
        for (int what = 0; what < due.length; what++) {
            dueOfCount(x, what, due[what]);
        }
        int[] badWhats = {-1, 12, MIN, MAX};
        for (int what : badWhats) {
            dueOfCount(x, what, BAD);
        }
        x.takeChoice(4, 0);
        dueOfCount(x, 4, 0);
        dueOfCount(x, 6, 3);
        dueOfCount(x, 7, 1);
        x.takeChoice(1, 1);
        dueOfCount(x, 7, 0);
        dueOfCount(x, 8, NONE);
    }

    /** All 1024 places: five pages each turn a flag on, five turn one off, the others only stand. */
    private static void longBook() {
        part = "a long book";
        PathBook x = new PathBook();
        for (int page = 0; page < 32; page++) {
            int sets = page >= 1 && page <= 5 ? 1 << (page - 1) : 0;
            int takes = page >= 6 && page <= 10 ? 1 << (page - 6) : 0;
            x.addPage(page == 31 ? 10 : page % 7 - 3, sets, takes);
        }
        for (int page = 0; page < 31; page++) {
            x.addChoice(page, (page + 1) % 31, 0, 0);
            x.addChoice(page, (page + 12) % 31, 0, 0);
        }
        x.addChoice(20, 31, 31, 0);
        dueOfCount(x, 2, 0);
        dueOfCount(x, 3, 31);
        dueOfCount(x, 4, 0);
        dueOfPage(x, 11, 8, 32);
        dueOfPage(x, 31, 8, 1);
        dueOfPage(x, 31, 7, 0);
        due("choice(20, 2, 3)", x.choice(20, 2, 3), 1);
        int steps = x.count(8);
        due("way(steps, 0)", x.way(steps, 0), 31);
        due("way(steps, 1)", x.way(steps, 1), 31);
        due("way(steps - 1, 0)", x.way(steps - 1, 0), 20);
        due("way(steps - 1, 2)", x.way(steps - 1, 2), 2);
        x.begin(0);
        float sum = 0.0f;
        for (int step = 0; step <= steps; step++) {
            due("reader on the way", x.reader(0, 0), x.way(step, 0));
            int page = x.way(step, 0);
            sum += (float) (page == 31 ? 10 : page % 7 - 3) / 10.0f;
            if (step < steps) {
                due("choose on the way", x.choose(0, x.way(step, 2)), x.way(step + 1, 0));
            }
        }
        due("reader(0, 3)", x.reader(0, 3), steps);
        due("wayMood()", x.wayMood(), bits(sum));
    }

    private static void readersStay() {
        part = "readers stay";
        PathBook x = new PathBook();
        x.addPage(0, A, 0);
        x.addPage(5, B, A);
        x.addChoice(0, 1, 0, 0);
        x.begin(0);
        x.choose(0, 0);
        x.mark(0);
        x.takeChoice(0, 0);
        dueOfReader(x, 0, 1, B, 0, 1);
        dueOfCount(x, 9, 1);
        dueOfPage(x, 1, 5, 1);
        x.addChoice(1, 0, B, 0);
        dueOfReader(x, 0, 1, B, 1, 1);
        due("goToMark(1)", x.goToMark(1), 1);
        due("choose(1, 0)", x.choose(1, 0), 0);
        dueOfReader(x, 1, 0, A | B, 0, 1);
        // A reader may stand at a place that can no more be come to: what is told goes by the first place.
        dueOfCount(x, 5, 1);
        dueOfPage(x, 0, 8, 1);
    }
}
