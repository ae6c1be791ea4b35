/**
 * Every error and NONE that a "Returns" line of the document names, in the order of its checks where
 * several apply, for the values first beyond the least and the greatest one; and each such call
 * changes nothing: pages, choices, readers, bookmark, history, snapshot and text are as before.
 */
public final class RefusalTest {
    private static final int UNKNOWN = PathBook.UNKNOWN;
    private static final int BAD = PathBook.BAD_VALUE;
    private static final int FULL = PathBook.FULL;
    private static final int NOT = PathBook.NOT_POSSIBLE;
    private static final int NONE = PathBook.NONE;

    private static final Sheet SHEET = new Sheet("RefusalTest");

    // The values first beyond, and the farthest ones.
    private static final int[] BAD_FLAGS = {-1, 32, 33, 64, Integer.MIN_VALUE, Integer.MAX_VALUE};
    private static final int[] BAD_TENTHS = {-100, 100, Integer.MIN_VALUE, Integer.MAX_VALUE};
    private static final int[] NO_READERS = {-1, 2, Integer.MIN_VALUE, Integer.MAX_VALUE};

    public static void main(String[] args) {
        for (Book book : new Book[] {empty(), small(), full()}) {
            addPage(book);
            setMood(book);
            addChoice(book);
            takeChoice(book);
            exchange(book);
            readers(book);
            page(book);
            choice(book);
            reader(book);
            why(book);
            way(book);
            count(book);
        }
        setMoodNone();
        addChoicesFault();
        addChoicesError();
        fullText();
        beginWithoutPages();
        chooseNot();
        mark();
        goToMark();
        undo();
        restore();
        SHEET.end();
    }

    // ---- what the tests share

    /** A tape, with all that could be learned of it ahead of the refused call. */
    private static final class Book {
        final Tape tape;
        final int pages;
        final String before;

        Book(Tape tape) {
            this.tape = tape;
            pages = tape.answer("count(0)");
            before = tape.everything();
        }

        void refuses(String call, int answer) {
            SHEET.due(tape, call, answer);
            SHEET.same(tape + ": " + call + " changes nothing", tape.then(call).everything(), before);
        }

        int[] noPages() {
            return new int[] {-1, pages, pages + 1, Integer.MIN_VALUE, Integer.MAX_VALUE};
        }
    }

    private static void refused(Tape tape, String call, int answer) {
        new Book(tape).refuses(call, answer);
    }

    private static String call(String name, int... with) {
        StringBuilder text = new StringBuilder(name).append('(');
        for (int i = 0; i < with.length; i++) {
            text.append(i == 0 ? "" : ", ").append(with[i]);
        }
        return text.append(')').toString();
    }

    private static Book empty() {
        return new Book(Tape.NEW);
    }

    /** Three pages, of which page 1 has two choices; a history that has room; nothing else. */
    private static Book small() {
        return new Book(Tape.of("addPage(-5, 3, 4)", "addPage(0, 1, 2)", "addPage(1, 0, 0)").typing("1>0+a;1>2-b")
            .then("addChoices()", "undo()", "addChoices()", "undo()", "undo()", "addPage(1, 0, 0)", "addChoices()"));
    }

    /** 32 pages, pages with 3 choices, a text of 60 signs, 4 states, a snapshot, a bookmark, a reader on the way. */
    private static Book full() {
        return new Book(fullTape());
    }

    private static Tape fullTape() {
        Tape tape = Tape.NEW;
        for (int page = 0; page < 32; page++) {
            tape = tape.then(call("addPage", page * 7 % 199 - 99, page * 5 % 32, page * 11 % 32));
        }
        tape = tape.then("addChoice(0, 1, 0, 0)", "addChoice(0, 2, 0, 0)", "addChoice(0, 0, 31, 0)",
            "addChoice(31, 0, 1, 2)", "addChoice(31, 30, 3, 4)", "addChoice(31, 31, 5, 6)", "addChoice(1, 2, 0, 0)",
            "addChoice(2, 0, 0, 0)", "addChoice(2, 29, 0, 0)", "setMood(29, 1)", "begin(0)", "keep()", "addChoice(1, 0, 0, 0)");
        tape = tape.then("begin(0)", "choose(0, 0)", "mark(0)", "choose(0, 0)");
        return tape.typing("30>30+abcde-abcde;30>30+abcde-abcde;30>30+abcde-abcde;9>9-ab");
    }

    // ---- each call in each book

    private static void addPage(Book book) {
        SHEET.sentence("addPage: BAD_VALUE; FULL if there are 32.");
        for (int tenths : BAD_TENTHS) {
            book.refuses(call("addPage", tenths, 0, 0), BAD);
            book.refuses(call("addPage", tenths, 31, 31), BAD);
        }
        for (int flags : BAD_FLAGS) {
            book.refuses(call("addPage", 0, flags, 0), BAD);
            book.refuses(call("addPage", 99, 0, flags), BAD);
            book.refuses(call("addPage", -99, flags, flags), BAD);
        }
        int answer = book.pages == 32 ? FULL : book.pages;
        for (String fine : new String[] {"addPage(-99, 0, 31)", "addPage(99, 31, 0)", "addPage(0, 0, 0)"}) {
            SHEET.due(book.tape, fine, answer);
            if (answer == FULL) {
                book.refuses(fine, FULL);
            }
        }
    }

    private static void setMood(Book book) {
        SHEET.sentence("setMood: UNKNOWN; BAD_VALUE.");
        for (int page : book.noPages()) {
            book.refuses(call("setMood", page, 0), UNKNOWN);
            book.refuses(call("setMood", page, 100), UNKNOWN);
        }
        for (int tenths : BAD_TENTHS) {
            book.refuses(call("setMood", 0, tenths), book.pages == 0 ? UNKNOWN : BAD);
            book.refuses(call("setMood", book.pages - 1, tenths), book.pages == 0 ? UNKNOWN : BAD);
        }
    }

    private static void addChoice(Book book) {
        SHEET.sentence("addChoice: UNKNOWN (page or to); BAD_VALUE; FULL if the page has 3.");
        for (int page : book.noPages()) {
            book.refuses(call("addChoice", page, 0, 0, 0), UNKNOWN);
            book.refuses(call("addChoice", 0, page, 0, 0), UNKNOWN);
            book.refuses(call("addChoice", 0, page, 32, -1), UNKNOWN);
            book.refuses(call("addChoice", page, page, 32, 0), UNKNOWN);
        }
        int bad = book.pages == 0 ? UNKNOWN : BAD;
        for (int flags : BAD_FLAGS) {
            book.refuses(call("addChoice", 0, 0, flags, 0), bad);
            book.refuses(call("addChoice", 0, 0, 31, flags), bad);
            book.refuses(call("addChoice", book.pages - 1, 0, flags, flags), bad);
        }
        if (book.pages == 32) {
            book.refuses("addChoice(0, 0, 0, 0)", FULL);
            book.refuses("addChoice(31, 31, 31, 31)", FULL);
            SHEET.due(book.tape, "addChoice(30, 31, 31, 0)", 0);
            SHEET.due(book.tape, "addChoice(1, 31, 0, 31)", 2);
        }
    }

    private static void takeChoice(Book book) {
        SHEET.sentence("takeChoice: UNKNOWN (page or choice).");
        for (int page : book.noPages()) {
            book.refuses(call("takeChoice", page, 0), UNKNOWN);
            book.refuses(call("takeChoice", page, -1), UNKNOWN);
        }
        for (int page = 0; page < book.pages; page++) {
            int choices = book.tape.answer(call("page", page, 0));
            for (int choice : new int[] {-1, choices, choices + 1, 3, Integer.MIN_VALUE, Integer.MAX_VALUE}) {
                book.refuses(call("takeChoice", page, choice), UNKNOWN);
            }
        }
    }

    private static void exchange(Book book) {
        SHEET.sentence("exchange: UNKNOWN (one or other); NONE if both are the same.");
        for (int page : book.noPages()) {
            book.refuses(call("exchange", page, 0), UNKNOWN);
            book.refuses(call("exchange", 0, page), UNKNOWN);
            book.refuses(call("exchange", page, page), UNKNOWN);
        }
        for (int page = 0; page < book.pages; page++) {
            book.refuses(call("exchange", page, page), NONE);
        }
    }

    private static void readers(Book book) {
        SHEET.sentence("begin, choose, mark, goToMark: UNKNOWN ahead of all else; choose: BAD_VALUE (choice).");
        for (int reader : NO_READERS) {
            for (String act : new String[] {"begin", "mark", "goToMark"}) {
                book.refuses(call(act, reader), UNKNOWN);
            }
            book.refuses(call("choose", reader, 0), UNKNOWN);
            book.refuses(call("choose", reader, 3), UNKNOWN);
            book.refuses(call("choose", reader, -1), UNKNOWN);
        }
        for (int choice : new int[] {-1, 3, Integer.MIN_VALUE, Integer.MAX_VALUE}) {
            book.refuses(call("choose", 0, choice), BAD);
            book.refuses(call("choose", 1, choice), BAD);
        }
    }

    private static void page(Book book) {
        SHEET.sentence("page: UNKNOWN; BAD_VALUE.");
        for (int page : book.noPages()) {
            book.refuses(call("page", page, 0), UNKNOWN);
            book.refuses(call("page", page, 10), UNKNOWN);
            book.refuses(call("page", page, 11), UNKNOWN);
            book.refuses(call("page", page, -1), UNKNOWN);
        }
        for (int what : new int[] {-1, 11, Integer.MIN_VALUE, Integer.MAX_VALUE}) {
            book.refuses(call("page", 0, what), book.pages == 0 ? UNKNOWN : BAD);
            book.refuses(call("page", book.pages - 1, what), book.pages == 0 ? UNKNOWN : BAD);
        }
    }

    private static void choice(Book book) {
        SHEET.sentence("choice: UNKNOWN (page or choice); BAD_VALUE.");
        for (int page : book.noPages()) {
            book.refuses(call("choice", page, 0, 0), UNKNOWN);
            book.refuses(call("choice", page, 3, 4), UNKNOWN);
        }
        for (int page = 0; page < book.pages; page++) {
            int choices = book.tape.answer(call("page", page, 0));
            for (int choice : new int[] {-1, choices, 3, Integer.MIN_VALUE, Integer.MAX_VALUE}) {
                book.refuses(call("choice", page, choice, 3), UNKNOWN);
                book.refuses(call("choice", page, choice, 4), UNKNOWN);
            }
            for (int choice = 0; choice < choices; choice++) {
                for (int what : new int[] {-1, 4, Integer.MIN_VALUE, Integer.MAX_VALUE}) {
                    book.refuses(call("choice", page, choice, what), BAD);
                }
            }
        }
    }

    private static void reader(Book book) {
        SHEET.sentence("reader: UNKNOWN; BAD_VALUE; NONE if the reader has not begun.");
        for (int reader : NO_READERS) {
            book.refuses(call("reader", reader, 0), UNKNOWN);
            book.refuses(call("reader", reader, 4), UNKNOWN);
            book.refuses(call("reader", reader, -1), UNKNOWN);
        }
        for (int reader = 0; reader < 2; reader++) {
            for (int what : new int[] {-1, 4, Integer.MIN_VALUE, Integer.MAX_VALUE}) {
                book.refuses(call("reader", reader, what), BAD);
            }
        }
        for (int what = 0; what <= 3; what++) {
            book.refuses(call("reader", 1, what), NONE);
        }
    }

    private static void why(Book book) {
        SHEET.sentence("why: UNKNOWN; BAD_VALUE, ahead of all reasons.");
        for (int reader : NO_READERS) {
            for (int choice : new int[] {0, 2, 3, -1}) {
                book.refuses(call("why", reader, choice), UNKNOWN);
            }
        }
        for (int choice : new int[] {-1, 3, Integer.MIN_VALUE, Integer.MAX_VALUE}) {
            book.refuses(call("why", 0, choice), BAD);
            book.refuses(call("why", 1, choice), BAD);
        }
    }

    private static void way(Book book) {
        SHEET.sentence("way: BAD_VALUE (step is negative, or what); NONE if there is no happy way, or it has not so many.");
        for (int step : new int[] {-1, Integer.MIN_VALUE}) {
            for (int what : new int[] {0, 2, 3, -1}) {
                book.refuses(call("way", step, what), BAD);
            }
        }
        int steps = Math.max(-1, book.tape.answer("count(8)"));
        for (int step : new int[] {0, steps + 1, Integer.MAX_VALUE}) {
            for (int what : new int[] {-1, 3, Integer.MIN_VALUE, Integer.MAX_VALUE}) {
                book.refuses(call("way", step, what), BAD);
            }
        }
        for (int what = 0; what <= 2; what++) {
            book.refuses(call("way", steps + 1, what), NONE);
            book.refuses(call("way", Integer.MAX_VALUE, what), NONE);
        }
        if (steps < 0) {
            book.refuses("wayMood()", NONE);
            book.refuses("count(8)", NONE);
        } else {
            book.refuses(call("way", steps, 2), NONE);
        }
    }

    private static void count(Book book) {
        SHEET.sentence("count: BAD_VALUE.");
        for (int what : new int[] {-1, 12, 13, Integer.MIN_VALUE, Integer.MAX_VALUE}) {
            book.refuses(call("count", what), BAD);
        }
    }

    // ---- what wants a book of its own

    private static void setMoodNone() {
        SHEET.sentence("setMood: NONE if the mood is so already.");
        for (int tenths = -99; tenths <= 99; tenths += 33) {
            Tape tape = Tape.of(call("addPage", tenths, 1, 2), "addChoice(0, 0, 1, 2)", "begin(0)", "mark(0)");
            refused(tape, call("setMood", 0, tenths), NONE);
            SHEET.due(tape, call("setMood", 0, tenths == 0 ? 1 : -tenths), 1);
            refused(tape.then("setMood(0, 5)", "undo()"), call("setMood", 0, tenths), NONE);
        }
        Book full = full();
        for (int page = 0; page < 32; page++) {
            full.refuses(call("setMood", page, page == 29 ? 1 : page * 7 % 199 - 99), NONE);
        }
    }

    private static void addChoicesFault() {
        SHEET.sentence("addChoices: -100 minus the fault of the text if it has one (which is an error).");
        refused(Tape.NEW, "addChoices()", -100);
        Tape full = fullTape().then("clearText()");
        refused(full, "addChoices()", -100);
        refused(full.typing("x"), "addChoices()", -100);
        refused(full.typing("9>9;"), "addChoices()", -104);
        refused(full.typing("9>9;9>32"), "addChoices()", -107);
        refused(full.typing("0>1;9>9+ba"), "addChoices()", -109);
        refused(Tape.book(2, "0>1;1>0").typing(";"), "addChoices()", -108);
        // The greatest fault: a text of 60 signs that ends too early.
        refused(full.typing("9>9;9>9;10>10+abcde;11>11+abcde;12>12+abcde;13>13+abcde-abc;"), "addChoices()", -160);
        refused(full.typing("9>9;9>9;10>10+abcde;11>11+abcde;12>12+abcde;13>13+abcde-abcx"), "addChoices()", -159);
        SHEET.sentence("addChoices: the fault goes ahead of the error of a choice.");
        refused(Tape.NEW.typing("0>1;"), "addChoices()", -104);
        refused(full.typing("0>1;x"), "addChoices()", -104);
        refused(Tape.pages(1).typing("0>0;0>0;0>0;0>0;5>5;0>00"), "addChoices()", -123);
    }

    private static void addChoicesError() {
        SHEET.sentence("addChoices: otherwise the error that addChoice() returns for the first one that has one when its turn"
            + " comes; all of them, or none.");
        refused(Tape.NEW.typing("0>0"), "addChoices()", UNKNOWN);
        refused(Tape.pages(31).typing("0>31"), "addChoices()", UNKNOWN);
        refused(Tape.pages(31).typing("31>0"), "addChoices()", UNKNOWN);
        refused(Tape.pages(31).typing("0>30;30>0;30>31"), "addChoices()", UNKNOWN);
        SHEET.due(Tape.pages(32).typing("0>31"), "addChoices()", 1);
        SHEET.due(Tape.pages(32).typing("31>0;31>31"), "addChoices()", 2);
        refused(Tape.pages(2).typing("0>1;0>1;0>1;0>1"), "addChoices()", FULL);
        refused(Tape.pages(2).typing("1>1;0>1;0>1;0>1;0>1"), "addChoices()", FULL);
        refused(Tape.pages(2).typing("0>1;0>1;0>1;0>1;0>2"), "addChoices()", FULL);
        refused(Tape.pages(2).typing("0>1;0>1;0>1;0>2;0>1"), "addChoices()", UNKNOWN);
        refused(Tape.pages(2).typing("0>1;2>1;0>1;0>1;0>1"), "addChoices()", UNKNOWN);
        refused(Tape.book(2, "0>1;0>1").typing(";1>0;0>1"), "addChoices()", FULL);
        refused(Tape.book(5, "0>0;0>1;0>2;1>0;1>1;1>2;2>0;2>1;2>2;3>0;3>1;3>2;4>0;4>1;4>2"), "addChoices()", FULL);
        Tape full = fullTape().then("clearText()");
        refused(full.typing("0>0"), "addChoices()", FULL);
        refused(full.typing("31>9+a-b"), "addChoices()", FULL);
        refused(full.typing("9>9;9>9;9>9;31>9"), "addChoices()", FULL);
        refused(full.typing("1>9;1>9"), "addChoices()", FULL);
        SHEET.due(full.typing("1>9"), "addChoices()", 1);
    }

    private static void fullText() {
        SHEET.sentence("type: FULL if it has 60 characters.");
        Book full = full();
        for (int sign : new int[] {0, 48, 59, 97, 255, 65535}) {
            full.refuses(call("type", sign), FULL);
        }
        refused(Tape.NEW.times(60, "type(0)"), "type(48)", FULL);
        SHEET.due(Tape.NEW.times(59, "type(0)"), "type(48)", 60);
    }

    private static void beginWithoutPages() {
        SHEET.sentence("begin: UNKNOWN; NOT_POSSIBLE if there is no page.");
        refused(Tape.NEW, "begin(0)", NOT);
        refused(Tape.NEW, "begin(1)", NOT);
        refused(Tape.pages(1).then("undo()"), "begin(0)", NOT);
        refused(Tape.NEW.then("keep()", "addPage(0, 0, 0)", "restore()"), "begin(1)", NOT);
        SHEET.due(Tape.pages(1), "begin(1)", 0);
    }

    private static void chooseNot() {
        SHEET.sentence("choose: NOT_POSSIBLE if the reason is not 0.");
        Tape book = Tape.of("addPage(0, 2, 0)", "addPage(0, 0, 0)").typing("0>1+a;0>1-b;1>1").then("addChoices()");
        for (int reader = 0; reader < 2; reader++) {
            for (int choice = 0; choice < 3; choice++) {
                refused(Tape.NEW, call("choose", reader, choice), NOT);
                refused(book, call("choose", reader, choice), NOT);
                refused(book.then(call("begin", reader)), call("choose", reader, choice), NOT);
                refused(book.then(call("begin", 1 - reader), "mark(" + (1 - reader) + ")"), call("choose", reader, choice), NOT);
            }
        }
        Book full = full();
        full.refuses("choose(0, 2)", NOT);
        full.refuses("choose(1, 0)", NOT);
    }

    private static void mark() {
        SHEET.sentence("mark: NOT_POSSIBLE if the reader has not begun; NONE if it is there already.");
        refused(Tape.NEW, "mark(0)", NOT);
        refused(Tape.pages(1), "mark(1)", NOT);
        Tape begun = Tape.pages(1).then("addPage(0, 1, 0)", "addChoice(0, 1, 0, 0)", "addChoice(1, 0, 0, 0)", "begin(0)");
        refused(begun, "mark(1)", NOT);
        refused(begun.then("mark(0)"), "mark(1)", NOT);
        refused(begun.then("mark(0)"), "mark(0)", NONE);
        refused(begun.then("mark(0)", "begin(1)"), "mark(1)", NONE);
        refused(begun.then("mark(0)", "choose(0, 0)", "begin(0)"), "mark(0)", NONE);
        SHEET.due(begun, "mark(0)", 0);
        SHEET.due(begun.then("mark(0)", "choose(0, 0)"), "mark(0)", 1);
        SHEET.due(begun.then("mark(0)", "choose(0, 0)", "choose(0, 0)"), "mark(0)", 0);
        full().refuses("mark(1)", NOT);
        refused(fullTape().then("goToMark(0)"), "mark(0)", NONE);
    }

    private static void goToMark() {
        SHEET.sentence("goToMark: NOT_POSSIBLE if the bookmark holds nothing; NONE if the reader is there already.");
        refused(Tape.NEW, "goToMark(0)", NOT);
        refused(Tape.NEW, "goToMark(1)", NOT);
        refused(Tape.pages(32), "goToMark(1)", NOT);
        Tape begun = Tape.pages(1).then("addPage(0, 1, 0)", "addChoice(0, 1, 0, 0)", "addChoice(1, 0, 0, 0)", "begin(0)");
        refused(begun, "goToMark(0)", NOT);
        refused(begun, "goToMark(1)", NOT);
        refused(begun.then("mark(0)", "undo()"), "goToMark(1)", NOT);
        refused(begun.then("mark(0)"), "goToMark(0)", NONE);
        refused(begun.then("mark(0)", "begin(1)"), "goToMark(1)", NONE);
        refused(begun.then("choose(0, 0)", "choose(0, 0)", "mark(0)", "choose(0, 0)", "choose(0, 0)"), "goToMark(0)", NONE);
        refused(fullTape().then("goToMark(1)"), "goToMark(1)", NONE);
        SHEET.due(begun.then("mark(0)"), "goToMark(1)", 0);
        SHEET.due(begun.then("mark(0)", "choose(0, 0)"), "goToMark(0)", 0);
    }

    private static void undo() {
        SHEET.sentence("undo: NONE if the history is empty.");
        refused(Tape.NEW, "undo()", NONE);
        refused(Tape.NEW.typing("0>1").then("keep()"), "undo()", NONE);
        refused(Tape.pages(4).times(4, "undo()"), "undo()", NONE);
        refused(Tape.pages(5).times(4, "undo()"), "undo()", NONE);
        refused(fullTape().times(4, "undo()"), "undo()", NONE);
    }

    private static void restore() {
        SHEET.sentence("restore: NONE if there is no snapshot.");
        refused(Tape.NEW, "restore()", NONE);
        refused(Tape.pages(1).then("begin(0)", "mark(0)"), "restore()", NONE);
        refused(Tape.pages(32).then("undo()"), "restore()", NONE);
        SHEET.due(Tape.NEW.then("keep()"), "restore()", 0);
    }
}
