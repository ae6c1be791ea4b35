import java.util.ArrayList;
import java.util.List;
import java.util.Map;
import java.util.Random;
import java.util.TreeMap;

/**
 * Each act changes what the document says that it changes, and nothing else. A book is told as facts, one
 * number each; every act is made with every argument on several books, and the facts behind it are compared.
 */
public final class ActTest {
    private static final int FULL = PathBook.FULL;
    private static final int NOT = PathBook.NOT_POSSIBLE;
    private static final int NONE = PathBook.NONE;

    private static final Sheet SHEET = new Sheet("ActTest");

    public static void main(String[] args) {
        List<Tape> books = books();
        for (Tape book : books) {
            Facts facts = Facts.of(book);
            addPage(book, facts);
            setMood(book, facts);
            addChoice(book, facts);
            addChoices(book, facts);
            takeChoice(book, facts);
            exchange(book, facts);
            readers(book, facts);
            history(book, facts);
            texts(book, facts);
        }
        SHEET.end();
    }

    // ---- the books

    private static List<Tape> books() {
        List<Tape> books = new ArrayList<>();
        books.add(Tape.NEW);
        // A page that leads to itself, and a reader for whom the choices are counted.
        books.add(Tape.book(1, "0>0").then("begin(1)", "choose(1, 0)", "choose(1, 0)"));
        books.add(Tape.book(1, "0>0").then("begin(0)", "choose(0, 0)", "mark(0)", "choose(0, 0)"));
        books.add(Tape.book(1, "0>0-a;0>0+b;0>0+c-d").then("begin(0)", "choose(0, 0)", "mark(0)"));
        books.add(Tape.book(2, "1>0-a;1>1+b;1>0+c-d;0>1").then("begin(0)", "choose(0, 0)"));
        for (int seed = 1; seed <= 24; seed++) {
            books.add(randomBook(new Random(seed), 2 + seed % 5));
        }
        books.add(randomBook(new Random(99), 32));
        return books;
    }

    private static Tape randomBook(Random random, int pages) {
        Tape book = Tape.NEW;
        for (int page = 0; page < pages; page++) {
            book = book.then(call("addPage", random.nextInt(199) - 99, random.nextInt(32), random.nextInt(32)));
        }
        for (int i = 0; i < pages * 2; i++) {
            int bar = random.nextInt(3) == 0 ? 1 << random.nextInt(5) : 0;
            int need = random.nextInt(3) == 0 ? 1 << random.nextInt(5) : 0;
            book = book.then(call("addChoice", random.nextInt(pages), random.nextInt(pages), need, bar));
        }
        book = random.nextInt(3) > 0 ? book.then("keep()", "setMood(0, 3)", "begin(0)") : book;
        book = random.nextInt(3) > 0 ? book.then("begin(1)") : book;
        for (int i = 0; i < 8; i++) {
            book = book.then(call("choose", random.nextInt(2), random.nextInt(3)));
            book = random.nextInt(4) == 0 ? book.then(call("mark", random.nextInt(2))) : book;
        }
        return book;
    }

    // ---- what the tests share

    private static String call(String name, int... with) {
        StringBuilder text = new StringBuilder(name).append('(');
        for (int i = 0; i < with.length; i++) {
            text.append(i == 0 ? "" : ", ").append(with[i]);
        }
        return text.append(')').toString();
    }

    private static int bits(int tenths) {
        return Float.floatToIntBits((float) tenths / 10.0f);
    }

    /** An act that is taken if its answer is no error and not NONE: undone, it leaves no trace. */
    private static void due(Tape book, Facts before, String act, int answer, Facts behind) {
        SHEET.due(book + ": " + act, book.answer(act), answer);
        SHEET.same(book + ": " + act, Facts.of(book.then(act)).toString(), (answer < 0 ? before : behind).toString());
        if (answer >= 0) {
            SHEET.same(book + ": " + act + " undo()", Facts.of(book.then(act, "undo()")).toString(), before.toString());
        }
    }

    // ---- pages, choices

    private static void addPage(Tape book, Facts facts) {
        SHEET.sentence("addPage: adds a page without choices.");
        int page = facts.pages();
        for (int set = 0; set < 32; set++) {
            Facts behind = facts.copy();
            int tenths = set * 6 - 93;
            int takes = set * 7 % 32;
            behind.putPage(page, 0, set, takes, bits(tenths));
            behind.put("pages", page + 1);
            due(book, facts, call("addPage", tenths, set, takes), page == 32 ? FULL : page, behind);
        }
    }

    private static void setMood(Tape book, Facts facts) {
        SHEET.sentence("setMood: changes the mood of a page.");
        for (int page = 0; page < facts.pages(); page++) {
            for (int tenths : new int[] {-99, 0, 3, 99}) {
                Facts behind = facts.copy();
                behind.put("page " + page + " 3", bits(tenths));
                boolean so = facts.get("page " + page + " 3") == bits(tenths);
                due(book, facts, call("setMood", page, tenths), so ? NONE : facts.choices(page), behind);
            }
        }
    }

    private static void addChoice(Tape book, Facts facts) {
        SHEET.sentence("addChoice: adds a choice to a page, as its last one.");
        for (int page = 0; page < facts.pages(); page++) {
            for (int to = 0; to < facts.pages(); to += facts.pages() > 8 ? 7 : 1) {
                Facts behind = facts.copy();
                int need = (page * 5 + to) % 32;
                int bar = (page + to * 11 + 3) % 32;
                boolean full = !behind.addChoice(page, to, need, bar);
                due(book, facts, call("addChoice", page, to, need, bar), full ? FULL : facts.choices(page), behind);
            }
        }
    }

    private static void addChoices(Tape book, Facts facts) {
        SHEET.sentence("addChoices: adds the choices of the text, which stays, one after the other; all of them, or none.");
        for (int page = 0; page < facts.pages(); page++) {
            int other = facts.pages() - 1 - page;
            String text = page + ">" + other + "+ad-b;" + other + ">" + page + "-ace;" + page + ">" + page;
            Tape typed = book.then("clearText()").typing(text);
            Facts behind = facts.copy();
            boolean added = behind.addChoice(page, other, 9, 2) && behind.addChoice(other, page, 0, 21)
                && behind.addChoice(page, page, 0, 0);
            due(typed, facts, "addChoices()", added ? 3 : FULL, behind);
            SHEET.due(typed + ": the text behind addChoices()", typed.then("addChoices()").answer("clearText()"), text.length());
        }
    }

    private static void takeChoice(Tape book, Facts facts) {
        SHEET.sentence("takeChoice: takes a choice away; those behind it move up.");
        for (int page = 0; page < facts.pages(); page++) {
            for (int choice = 0; choice < facts.choices(page); choice++) {
                Facts behind = facts.copy();
                behind.put("page " + page + " 0", facts.choices(page) - 1);
                for (int i = choice; i + 1 < facts.choices(page); i++) {
                    for (int what = 0; what < 3; what++) {
                        behind.put(fact("choice", page, i, what), facts.get(fact("choice", page, i + 1, what)));
                    }
                }
                for (int what = 0; what < 3; what++) {
                    behind.drop(fact("choice", page, facts.choices(page) - 1, what));
                }
                due(book, facts, call("takeChoice", page, choice), facts.get(fact("choice", page, choice, 0)), behind);
            }
        }
    }

    private static void exchange(Tape book, Facts facts) {
        SHEET.sentence("exchange: they exchange their numbers; choices lead to the same pages as before, and readers and the"
            + " bookmark are at the same pages as before.");
        for (int one = 0; one < facts.pages(); one++) {
            for (int other = 0; other < facts.pages(); other += facts.pages() > 8 ? 5 : 1) {
                int leading = facts.choicesTo(one) + facts.choicesTo(other);
                due(book, facts, call("exchange", one, other), one == other ? NONE : leading, facts.exchanged(one, other));
            }
        }
    }

    // ---- readers

    private static void readers(Tape book, Facts facts) {
        for (int reader = 0; reader < 2; reader++) {
            SHEET.sentence("begin: a reader begins.");
            Facts behind = facts.copy();
            int first = facts.pages() == 0 ? NOT : facts.get("page 0 1");
            behind.putReader(reader, 0, first, 0);
            due(book, facts, call("begin", reader), first, behind);
            choose(book, facts, reader);
            mark(book, facts, reader);
        }
    }

    private static void choose(Tape book, Facts facts, int reader) {
        SHEET.sentence("choose: a reader takes a choice.");
        int page = facts.get("reader " + reader + " 0");
        int flags = facts.get("reader " + reader + " 1");
        for (int choice = 0; choice < 3; choice++) {
            Facts behind = facts.copy();
            int answer = NOT;
            boolean there = page >= 0 && choice < facts.choices(page);
            if (there && (facts.get(fact("choice", page, choice, 1)) | flags) == flags
                && (facts.get(fact("choice", page, choice, 2)) & flags) == 0) {
                answer = facts.get(fact("choice", page, choice, 0));
                int left = flags & 31 - facts.get("page " + answer + " 2");
                behind.putReader(reader, answer, left | facts.get("page " + answer + " 1"),
                    facts.get("reader " + reader + " 3") + 1);
            }
            due(book, facts, call("choose", reader, choice), answer, behind);
        }
    }

    private static void mark(Tape book, Facts facts, int reader) {
        int page = facts.get("reader " + reader + " 0");
        int flags = facts.get("reader " + reader + " 1");
        int markedPage = facts.get("mark page");
        int markedFlags = facts.get("mark flags");
        boolean there = page == markedPage && flags == markedFlags;

        SHEET.sentence("mark: puts the bookmark to the place of a reader.");
        Facts behind = facts.copy();
        behind.put("mark page", page);
        behind.put("mark flags", flags);
        due(book, facts, call("mark", reader), page < 0 ? NOT : there ? NONE : page, behind);

        SHEET.sentence("goToMark: a reader, also one who has not begun, goes to the place of the bookmark, which stays.");
        behind = facts.copy();
        behind.putReader(reader, markedPage, markedFlags, 0);
        due(book, facts, call("goToMark", reader), markedPage < 0 ? NOT : there ? NONE : markedPage, behind);
    }

    // ---- history, texts

    private static void history(Tape book, Facts facts) {
        SHEET.sentence("undo removes and restores the latest one; restore restores the state of the snapshot, which stays.");
        String[] between = {"addPage(1, 2, 3)", "setMood(0, -7)", "exchange(0, 1)", "begin(0)", "mark(1)", "takeChoice(0, 0)",
            "addChoice(1, 0, 5, 6)", "begin(1)"};
        Tape kept = book.then("keep()");
        SHEET.same(kept + " ", Facts.of(kept).toString(), facts.toString());
        Tape far = kept.then(between);
        due(far, Facts.of(far), "restore()", facts.pages(), facts);
        due(far.then("restore()").then(between), Facts.of(far), "restore()", facts.pages(), facts);
    }

    private static void texts(Tape book, Facts facts) {
        SHEET.sentence("type and clearText change the text alone.");
        SHEET.same(book + ": type", Facts.of(book.typing("0>0;x")).toString(), facts.toString());
        SHEET.same(book + ": clearText", Facts.of(book.typing("0>0").then("clearText()")).toString(), facts.toString());
    }

    private static String fact(String of, int page, int choice, int what) {
        return of + " " + page + " " + choice + " " + what;
    }

    /** What is told of pages, choices, readers and the bookmark, without what is worked out of it. */
    private static final class Facts {
        private final Map<String, Integer> numbers = new TreeMap<>();

        static Facts of(Tape tape) {
            Facts facts = new Facts();
            PathBook x = tape.play();
            int pages = x.count(0);
            facts.put("pages", pages);
            for (int page = 0; page < pages; page++) {
                facts.putPage(page, x.page(page, 0), x.page(page, 1), x.page(page, 2), x.page(page, 3));
                for (int choice = 0; choice < x.page(page, 0); choice++) {
                    for (int what = 0; what < 3; what++) {
                        facts.put(fact("choice", page, choice, what), x.choice(page, choice, what));
                    }
                }
                // A full book asks for more calls than one object answers.
                x = pages > 8 ? tape.play() : x;
            }
            for (int reader = 0; reader < 2; reader++) {
                facts.putReader(reader, x.reader(reader, 0), x.reader(reader, 1), x.reader(reader, 3));
            }
            boolean marked = x.count(9) == 1;
            x.goToMark(0);
            facts.put("mark page", marked ? x.reader(0, 0) : NOT);
            facts.put("mark flags", marked ? x.reader(0, 1) : NOT);
            return facts;
        }

        Facts copy() {
            Facts copy = new Facts();
            copy.numbers.putAll(numbers);
            return copy;
        }

        void put(String fact, int number) {
            numbers.put(fact, number);
        }

        void drop(String fact) {
            numbers.remove(fact);
        }

        int get(String fact) {
            return numbers.get(fact);
        }

        int pages() {
            return get("pages");
        }

        int choices(int page) {
            return get("page " + page + " 0");
        }

        void putPage(int page, int choices, int sets, int takes, int mood) {
            put("page " + page + " 0", choices);
            put("page " + page + " 1", sets);
            put("page " + page + " 2", takes);
            put("page " + page + " 3", mood);
        }

        void putReader(int reader, int page, int flags, int taken) {
            put("reader " + reader + " 0", page);
            put("reader " + reader + " 1", flags);
            put("reader " + reader + " 3", taken);
        }

        boolean addChoice(int page, int to, int need, int bar) {
            int choice = choices(page);
            if (choice == 3) {
                return false;
            }
            put("page " + page + " 0", choice + 1);
            put(fact("choice", page, choice, 0), to);
            put(fact("choice", page, choice, 1), need);
            put(fact("choice", page, choice, 2), bar);
            return true;
        }

        int choicesTo(int page) {
            int sum = 0;
            for (Map.Entry<String, Integer> e : numbers.entrySet()) {
                sum += e.getKey().matches("choice \\d+ \\d+ 0") && e.getValue() == page ? 1 : 0;
            }
            return sum;
        }

        Facts exchanged(int one, int other) {
            Facts behind = new Facts();
            for (Map.Entry<String, Integer> e : numbers.entrySet()) {
                String[] words = e.getKey().split(" ");
                if (words[0].equals("page") || words[0].equals("choice")) {
                    words[1] = String.valueOf(swapped(Integer.parseInt(words[1]), one, other));
                }
                boolean tellsPage = e.getKey().matches("choice \\d+ \\d+ 0|reader \\d 0|mark page");
                behind.put(String.join(" ", words), tellsPage ? swapped(e.getValue(), one, other) : e.getValue());
            }
            return behind;
        }

        private static int swapped(int page, int one, int other) {
            return page == one ? other : page == other ? one : page;
        }

        @Override
        public String toString() {
            StringBuilder text = new StringBuilder();
            for (Map.Entry<String, Integer> e : numbers.entrySet()) {
                text.append(e.getKey()).append(" = ").append(e.getValue()).append('\n');
            }
            return text.toString();
        }
    }
}
