import java.util.ArrayList;
import java.util.Arrays;
import java.util.List;

/**
 * The sentences of the document that name a boundary, in its order: its terms, then its promises.
 * What is refused stands in RefusalTest, the grammar of a text in GrammarTest.
 */
public final class EdgeTest {
    private static final int FULL = PathBook.FULL;
    private static final int NOT = PathBook.NOT_POSSIBLE;
    private static final int NONE = PathBook.NONE;
    private static final int UNKNOWN = PathBook.UNKNOWN;

    private static final Sheet SHEET = new Sheet("EdgeTest");

    public static void main(String[] args) {
        pages();
        flags();
        moods();
        choices();
        whatCanBeTaken();
        ends();
        coming();
        beginning();
        places();
        firstPlace();
        placesBehind();
        allPlaces();
        dead();
        comesAgain();
        stuck();
        fewestChoices();
        lowestChoices();
        moodOfAWay();
        longWay();
        farOff();
        readers();
        bookmark();
        readersStay();
        textLength();
        historyLength();
        actsAreRecorded();
        othersAreNotRecorded();
        snapshot();
        state();
        lastCall();
        answersOfPages();
        answersOfReaders();
        answersOfHistory();
        toldOfPages();
        toldOfChoices();
        toldOfReaders();
        reasons();
        toldOfWays();
        counts();
        SHEET.end();
    }

    // ---- what the tests share

    private static void sentence(String words) {
        SHEET.sentence(words);
    }

    private static void due(Tape tape, String call, int want) {
        SHEET.due(tape, call, want);
    }

    private static String call(String name, int... with) {
        StringBuilder text = new StringBuilder(name).append('(');
        for (int i = 0; i < with.length; i++) {
            text.append(i == 0 ? "" : ", ").append(with[i]);
        }
        return text.append(')').toString();
    }

    private static int bits(int tenths) {
        return Float.floatToIntBits((float) tenths / 10.0f);
    }

    /** A ring of all 32 pages. */
    private static Tape ring() {
        Tape ring = Tape.pages(32);
        for (int page = 0; page < 32; page++) {
            ring = ring.then(call("addChoice", page, (page + 1) % 32, 0, 0));
        }
        return ring;
    }

    /** Pages of a mood each, without flags, each with a choice to the next one. */
    private static Tape chain(int... tenths) {
        Tape chain = Tape.NEW;
        for (int mood : tenths) {
            chain = chain.then(call("addPage", mood, 0, 0));
        }
        for (int page = 0; page + 1 < tenths.length; page++) {
            chain = chain.then(call("addChoice", page, page + 1, 0, 0));
        }
        return chain;
    }

    // ---- pages, flags, choices

    private static void pages() {
        sentence("A book has at most 32 pages, numbered from 0 in the order in which they were added.");
        Tape book = Tape.NEW;
        for (int page = 0; page < 32; page++) {
            due(book, call("addPage", page, page, 31 - page), page);
            book = book.then(call("addPage", page, page, 31 - page));
            due(book, "count(0)", page + 1);
            due(book, call("page", page + 1, 0), UNKNOWN);
        }
        due(book, "addPage(0, 0, 0)", FULL);
        due(book.then("addPage(0, 0, 0)"), "count(0)", 32);
        for (int page = 0; page < 32; page++) {
            due(book, call("page", page, 0), 0);
            due(book, call("page", page, 1), page);
            due(book, call("page", page, 2), 31 - page);
            due(book, call("page", page, 3), bits(page));
        }
        due(book.then("undo()"), "addPage(0, 0, 0)", 31);
    }

    private static void flags() {
        sentence("There are 5 flags, 0 to 4 (also told as \"a\" to \"e\"); sets of flags are told as bits.");
        for (int set = 0; set < 32; set++) {
            Tape page = Tape.of(call("addPage", 0, set, 31 - set));
            due(page, "page(0, 1)", set);
            due(page, "page(0, 2)", 31 - set);
            due(page, "begin(0)", set);
            Tape choice = page.then(call("addChoice", 0, 0, set, 31 - set));
            due(choice, "choice(0, 0, 1)", set);
            due(choice, "choice(0, 0, 2)", 31 - set);
        }
        for (int flag = 0; flag < 5; flag++) {
            char letter = (char) ('a' + flag);
            due(Tape.book(1, "0>0+" + letter), "choice(0, 0, 1)", 1 << flag);
            due(Tape.book(1, "0>0-" + letter), "choice(0, 0, 2)", 1 << flag);
        }
    }

    private static void moods() {
        sentence("A page has a mood (a float: (float) tenths / 10.0f, tenths being -99 to 99).");
        for (int tenths = -99; tenths <= 99; tenths++) {
            due(Tape.of(call("addPage", tenths, 0, 0)), "page(0, 3)", bits(tenths));
            int other = tenths == 0 ? 1 : 0;
            Tape changed = Tape.of(call("addPage", other, 0, 0), call("setMood", 0, tenths));
            due(changed, "page(0, 3)", bits(tenths));
        }
        due(Tape.of("addPage(-99, 0, 0)"), "page(0, 3)", 0xc11e6666);
        due(Tape.of("addPage(0, 0, 0)"), "page(0, 3)", 0);
        due(Tape.of("addPage(1, 0, 0)"), "page(0, 3)", 0x3dcccccd);
        due(Tape.of("addPage(99, 0, 0)"), "page(0, 3)", 0x411e6666);
    }

    private static void choices() {
        sentence("A page has at most 3 choices, numbered from 0: each with the page to which it leads (it may be the same page).");
        Tape book = Tape.pages(32);
        for (int page = 0; page < 32; page += 31) {
            for (int choice = 0; choice < 3; choice++) {
                int to = choice == 0 ? page : 31 * choice / 2;
                String add = call("addChoice", page, to, choice, choice + 4);
                due(book, add, choice);
                book = book.then(add);
                due(book, call("choice", page, choice, 0), to);
                due(book, call("choice", page, choice, 1), choice);
                due(book, call("choice", page, choice, 2), choice + 4);
                due(book, call("choice", page, choice + 1, 0), UNKNOWN);
            }
            due(book, call("addChoice", page, page, 0, 0), FULL);
            due(book, call("page", page, 0), 3);
        }
        due(book, "addChoice(1, 0, 0, 0)", 0);
        due(book, "addChoice(30, 31, 0, 0)", 0);
        due(Tape.book(1, "0>0").then("begin(0)"), "choose(0, 0)", 0);

        Tape all = Tape.pages(32);
        for (int i = 0; i < 96; i++) {
            all = all.then(call("addChoice", i / 3, (i * 7 + 5) % 32, i % 32, 31 - i % 32));
        }
        due(all, "count(1)", 96);
        for (int i = 0; i < 96; i++) {
            due(all, call("choice", i / 3, i % 3, 0), (i * 7 + 5) % 32);
            due(all, call("choice", i / 3, i % 3, 1), i % 32);
            due(all, call("choice", i / 3, i % 3, 2), 31 - i % 32);
        }
    }

    private static void whatCanBeTaken() {
        sentence("A choice can be taken with some flags if all that it needs are there, and none that bars it.");
        for (int flags = 0; flags < 32; flags++) {
            for (int need = 0; need < 32; need++) {
                for (int bar = 0; bar < 32; bar++) {
                    whetherItCanBeTaken(flags, need, bar);
                }
            }
        }
    }

    private static void whetherItCanBeTaken(int flags, int need, int bar) {
        boolean missing = (need & flags) != need;
        boolean barred = (bar & flags) != 0;
        Tape book = Tape.of(call("addPage", 0, flags, 0), call("addChoice", 0, 0, need, bar), "begin(1)");
        PathBook x = book.play();
        SHEET.due(book + " why(1, 0)", x.why(1, 0), missing ? 3 : barred ? 4 : 0);
        SHEET.due(book + " reader(1, 2)", x.reader(1, 2), missing || barred ? 0 : 1);
        SHEET.due(book + " choice(0, 0, 3)", x.choice(0, 0, 3), missing || barred ? 0 : 1);
        SHEET.due(book + " choose(1, 0)", x.choose(1, 0), missing || barred ? NOT : 0);
    }

    private static void ends() {
        sentence("A page without choices is an end; it is happy if its mood is above 0.0f.");
        for (int tenths : new int[] {-99, -1, 0, 1, 99}) {
            Tape end = Tape.of(call("addPage", tenths, 0, 0));
            int kind = tenths > 0 ? 1 : 2;
            due(end, "page(0, 4)", kind);
            due(end.then("addChoice(0, 0, 0, 0)"), "page(0, 4)", 0);
            due(end.then("addChoice(0, 0, 31, 31)"), "page(0, 4)", 0);
            due(end.then("addChoice(0, 0, 0, 0)", "takeChoice(0, 0)"), "page(0, 4)", kind);
            due(end, "count(6)", 1);
            due(end, "count(7)", tenths > 0 ? 1 : 0);
        }
        due(Tape.of("addPage(1, 0, 0)", "setMood(0, 0)"), "page(0, 4)", 2);
        due(Tape.of("addPage(0, 0, 0)", "setMood(0, 1)"), "page(0, 4)", 1);
    }

    private static void coming() {
        sentence("A flag that is in both is set. To come to a page: those that the page takes away are gone,"
            + " and those that it sets are there behind that.");
        for (int flags = 0; flags < 32; flags++) {
            for (int sets = 0; sets < 32; sets++) {
                for (int takes = 0; takes < 32; takes++) {
                    Tape book = Tape.of(call("addPage", 0, flags, 31 - flags), call("addPage", 0, sets, takes),
                        "addChoice(0, 1, 0, 0)", "begin(0)", "choose(0, 0)");
                    SHEET.due(book + " reader(0, 1)", book.play().reader(0, 1), flags & ~takes | sets);
                }
            }
        }
    }

    private static void beginning() {
        sentence("A reader begins by coming to the page 0 without any flag.");
        due(Tape.pages(1), "begin(0)", 0);
        due(Tape.of("addPage(0, 31, 0)"), "begin(0)", 31);
        due(Tape.of("addPage(0, 31, 31)"), "begin(1)", 31);
        due(Tape.of("addPage(0, 0, 31)"), "begin(1)", 0);
        due(Tape.of("addPage(0, 1, 30)", "addPage(0, 2, 0)"), "begin(0)", 1);
        Tape far = Tape.of("addPage(0, 1, 0)", "addPage(0, 30, 0)", "addChoice(0, 1, 0, 0)", "begin(0)", "choose(0, 0)");
        due(far, "reader(0, 1)", 31);
        due(far, "begin(0)", 1);
        due(far.then("begin(0)"), "reader(0, 0)", 0);
        due(far.then("begin(0)"), "reader(0, 1)", 1);
        due(far.then("begin(0)"), "reader(0, 3)", 0);
    }

    private static void places() {
        sentence("A place is a page with the flags that the reader has behind coming there.");
        Tape book = Tape.pages(1).then("addPage(0, 16, 0)").typing("0>1;1>0").then("addChoices()", "begin(0)", "mark(0)");
        Tape round = book.then("choose(0, 0)", "choose(0, 0)");
        due(round, "reader(0, 0)", 0);
        due(round, "reader(0, 1)", 16);
        due(round, "mark(0)", 0);
        due(round, "goToMark(0)", 0);
        due(round.then("goToMark(0)"), "reader(0, 1)", 0);
        due(round.then("mark(0)"), "mark(0)", NONE);
        due(round.then("mark(0)", "begin(0)"), "goToMark(0)", 0);
        due(round.then("mark(0)", "begin(0)", "goToMark(0)"), "reader(0, 1)", 16);
        due(book, "count(5)", 3);
        due(book, "page(0, 8)", 2);
        due(book, "page(1, 8)", 1);
    }

    // ---- what can be come to

    private static void firstPlace() {
        sentence("Places that can be come to are the first one (if there is any page).");
        due(Tape.NEW, "count(5)", 0);
        due(Tape.pages(1), "count(5)", 1);
        due(Tape.pages(1).then("undo()"), "count(5)", 0);
        due(Tape.pages(32), "count(5)", 1);
        due(Tape.pages(32), "page(0, 8)", 1);
        due(Tape.pages(32), "page(0, 9)", 0);
        due(Tape.pages(32), "page(31, 8)", 0);
        due(Tape.pages(32).then("exchange(0, 31)"), "page(0, 8)", 1);
    }

    private static void placesBehind() {
        sentence("And all to which a choice leads that can be taken at a place that can be come to.");
        due(Tape.book(2, "0>1"), "count(5)", 2);
        due(Tape.book(2, "0>0;0>0;0>1"), "count(5)", 2);
        due(Tape.book(2, "0>1+e"), "count(5)", 1);
        due(Tape.book(2, "0>1-abcde"), "count(5)", 2);
        due(Tape.book(3, "1>2;2>1"), "count(5)", 1);
        due(Tape.book(3, "1>0;1>2"), "count(5)", 1);
        Tape key = Tape.of("addPage(0, 0, 0)", "addPage(0, 4, 0)", "addPage(0, 0, 0)");
        due(key.typing("0>1;1>0;0>2+c").then("addChoices()"), "page(2, 8)", 1);
        due(key.typing("0>1;0>2+c").then("addChoices()"), "page(2, 8)", 0);
        due(key.typing("0>1;1>0;0>2-c").then("addChoices()"), "page(2, 9)", 1);
        due(ring(), "count(5)", 32);
        due(ring(), "page(31, 9)", 31);
    }

    /** Five pages set a flag each and can be stepped over; the other 27 can be come to with all 32 sets. */
    private static void allPlaces() {
        sentence("Places that can be come to, with all sets of flags; the full book.");
        Tape book = Tape.NEW;
        for (int page = 0; page < 32; page++) {
            boolean sets = page >= 2 && page <= 10 && page % 2 == 0;
            book = book.then(call("addPage", 0, sets ? 1 << page / 2 - 1 : 0, 0));
        }
        for (int page = 0; page < 32; page++) {
            book = book.then(call("addChoice", page, (page + 1) % 32, 0, 0), call("addChoice", page, (page + 2) % 32, 0, 0));
        }
        due(book, "count(5)", 27 * 32 + 5 * 16);
        due(book, "count(4)", 27 * 32 + 5 * 16);
        due(book, "count(3)", 32);
        due(book, "count(2)", 0);
        for (int page = 0; page < 32; page++) {
            boolean sets = page >= 2 && page <= 10 && page % 2 == 0;
            due(book, call("page", page, 8), sets ? 16 : 32);
            due(book, call("page", page, 9), (page + 1) / 2);
        }
        Tape open = book.then("takeChoice(31, 0)", "takeChoice(31, 0)");
        due(open, "count(4)", 0);
        due(open, "count(6)", 1);
        Tape last = open.then("setMood(31, 1)");
        due(last, "count(7)", 1);
        due(last, "count(8)", 16);
        due(last, "way(16, 0)", 31);
    }

    private static void dead() {
        sentence("A page is dead if no place with it can be come to.");
        due(Tape.NEW, "count(2)", 0);
        due(Tape.pages(1), "page(0, 5)", 0);
        due(Tape.pages(1), "count(2)", 0);
        due(Tape.pages(32), "page(0, 5)", 0);
        due(Tape.pages(32), "page(1, 5)", 1);
        due(Tape.pages(32), "page(31, 5)", 1);
        due(Tape.pages(32), "count(2)", 31);
        due(ring(), "count(2)", 0);
        due(ring().then("takeChoice(30, 0)"), "count(2)", 1);
        due(ring().then("takeChoice(30, 0)"), "page(31, 5)", 1);
        due(ring().then("takeChoice(0, 0)"), "count(2)", 31);
        due(Tape.book(3, "1>1;1>2;2>0"), "count(2)", 2);
        due(Tape.book(2, "0>1+a-a"), "page(1, 5)", 1);
        // A reader at a page does not bring it back to life.
        Tape left = Tape.book(2, "0>1").then("begin(0)", "choose(0, 0)", "mark(0)", "takeChoice(0, 0)");
        due(left, "reader(0, 0)", 1);
        due(left, "page(1, 5)", 1);
    }

    private static void comesAgain() {
        sentence("A page comes again if from a place with it, that can be come to, one can come to a place with it"
            + " by one choice or more (perhaps with other flags).");
        due(Tape.NEW, "count(3)", 0);
        due(Tape.pages(1), "page(0, 6)", 0);
        due(Tape.book(1, "0>0"), "page(0, 6)", 1);
        due(Tape.book(1, "0>0+a"), "page(0, 6)", 0);
        due(Tape.book(2, "0>1;1>0"), "page(0, 6)", 1);
        due(Tape.book(2, "0>1;1>0"), "page(1, 6)", 1);
        due(Tape.book(2, "0>1;1>1"), "page(0, 6)", 0);
        due(Tape.book(2, "0>1;1>1"), "page(1, 6)", 1);
        due(Tape.book(2, "1>1"), "page(1, 6)", 0);
        due(Tape.book(4, "0>1;0>2;1>3;2>3"), "count(3)", 0);
        for (int page = 0; page < 32; page++) {
            due(ring(), call("page", page, 6), 1);
        }
        due(ring(), "count(3)", 32);
        due(ring().then("takeChoice(31, 0)"), "count(3)", 0);
        due(ring().then("addChoice(31, 31, 0, 0)", "takeChoice(31, 0)"), "count(3)", 1);

        // A page that is led to by its neighbour in the binding does not come again by that.
        due(Tape.book(3, "0>2;2>1"), "page(1, 6)", 0);
        due(Tape.book(3, "0>2;2>1"), "count(3)", 0);
        due(Tape.of("addPage(0, 31, 0)", "addPage(0, 0, 0)", "addChoice(0, 1, 0, 0)"), "page(1, 6)", 0);
        due(Tape.of("addPage(0, 31, 0)", "addPage(0, 0, 0)", "addChoice(0, 1, 0, 0)"), "count(3)", 0);

        // With other flags alone: the choice that leads back sets a flag that bars it.
        Tape once = Tape.of("addPage(0, 0, 0)", "addPage(0, 1, 0)", "addPage(0, 0, 0)");
        Tape other = once.typing("0>1-a;0>2+a;1>0").then("addChoices()");
        due(other, "page(0, 6)", 1);
        due(other, "page(1, 6)", 0);
        due(other, "page(2, 6)", 0);
        due(other, "count(3)", 1);

        // Two places with one page, but neither behind the other.
        Tape both = once.typing("0>2;0>1;1>2").then("addChoices()");
        due(both, "page(2, 8)", 2);
        due(both, "page(2, 6)", 0);
    }

    private static void stuck() {
        sentence("A place is stuck if it can be come to, and no end can be come to from it (an end is not stuck);"
            + " a page that is no end, and none of whose choices can be taken, makes a stuck place, too.");
        due(Tape.NEW, "count(4)", 0);
        due(Tape.pages(1), "count(4)", 0);
        due(Tape.pages(1), "page(0, 7)", 0);
        due(Tape.book(1, "0>0"), "page(0, 7)", 1);
        due(Tape.book(1, "0>0+a"), "page(0, 7)", 1);
        due(Tape.book(2, "0>1+a"), "count(4)", 1);
        due(Tape.book(2, "0>1"), "count(4)", 0);
        due(Tape.book(2, "0>0;0>1"), "count(4)", 0);
        due(Tape.book(2, "1>1"), "page(1, 7)", 0);
        due(Tape.book(2, "1>1"), "count(4)", 0);
        due(Tape.book(3, "0>1;0>2;1>1"), "count(4)", 1);
        due(Tape.book(3, "0>1;0>2;1>1"), "page(0, 7)", 0);
        due(Tape.book(3, "0>1;0>2;1>1"), "page(1, 7)", 1);
        due(ring(), "count(4)", 32);
        for (int page = 0; page < 32; page++) {
            due(ring(), call("page", page, 7), 1);
        }
        due(ring().then("takeChoice(31, 0)"), "count(4)", 0);

        // One of two places with a page is stuck: the page tells so, and one place counts.
        Tape half = Tape.of("addPage(0, 0, 0)", "addPage(0, 2, 0)", "addPage(0, 0, 0)", "addPage(0, 0, 0)")
            .typing("0>2;0>1;1>2;2>3-b").then("addChoices()");
        due(half, "page(2, 8)", 2);
        due(half, "page(2, 7)", 1);
        due(half, "page(1, 7)", 1);
        due(half, "page(0, 7)", 0);
        due(half, "count(4)", 2);
        due(half.then("setMood(3, -99)"), "count(4)", 2);
    }

    private static void fewestChoices() {
        sentence("The shortest happy way is the one by the fewest choices from the first place to a place whose page"
            + " is a happy end.");
        due(Tape.NEW, "count(8)", NONE);
        due(Tape.pages(1), "count(8)", NONE);
        due(Tape.of("addPage(1, 0, 0)"), "count(8)", 0);
        due(Tape.of("addPage(1, 0, 0)", "addChoice(0, 0, 0, 0)"), "count(8)", NONE);
        due(chain(1, 0), "count(8)", NONE);
        due(chain(0, 1), "count(8)", 1);
        due(chain(99, 99), "count(8)", 1);
        due(chain(0, 1).then("takeChoice(0, 0)"), "count(8)", NONE);
        int[] long32 = new int[32];
        long32[31] = 1;
        due(chain(long32), "count(8)", 31);
        due(chain(long32), "way(31, 0)", 31);
        Tape more = Tape.book(5, "0>1;0>3;1>2;3>4;2>4").then("setMood(4, 1)");
        due(more, "count(8)", 2);
        due(more, "way(0, 2)", 1);
        due(more.then("setMood(2, 1)"), "way(0, 2)", 1);
        due(more.then("setMood(2, 1)", "takeChoice(2, 0)"), "way(0, 2)", 0);
        // An end that is not happy, nearer, is no end of the way.
        due(Tape.book(4, "0>1;0>2;2>3").then("setMood(3, 1)"), "count(8)", 2);
    }

    private static void lowestChoices() {
        sentence("Of several the one whose first choice has the lowest number, of these the one whose second choice has,"
            + " and so on.");
        Tape first = Tape.book(4, "0>1;0>3;0>2").then("setMood(2, 1)", "setMood(3, 1)");
        due(first, "way(0, 2)", 1);
        due(first, "way(1, 0)", 3);
        due(Tape.book(2, "0>1;0>1;0>1").then("setMood(1, 1)"), "way(0, 2)", 0);
        // The first choice goes ahead of the second: 0 then 2, not 1 then 0.
        Tape second = Tape.book(7, "0>1;0>2;1>3;1>4;1>5;2>6").then("setMood(5, 1)", "setMood(6, 1)");
        due(second, "way(0, 2)", 0);
        due(second, "way(1, 2)", 2);
        due(second, "way(2, 0)", 5);
        due(second.then("setMood(4, 1)"), "way(1, 2)", 1);
        due(second.then("setMood(4, 1)", "setMood(3, 1)"), "way(1, 2)", 0);
        // The page that two ways share is come to by the lower one, also when it has the higher pages.
        Tape shared = Tape.book(5, "0>3;0>1;3>2;1>2;2>4;2>4").then("setMood(4, 1)");
        due(shared, "way(0, 2)", 0);
        due(shared, "way(1, 0)", 3);
        due(shared, "way(2, 2)", 0);
        due(shared, "way(3, 0)", 4);
        // The third choice decides.
        Tape third = Tape.book(5, "0>1;1>2;2>4;2>3").then("setMood(3, 1)", "setMood(4, 1)");
        due(third, "way(2, 2)", 0);
        due(third, "way(3, 0)", 4);
        due(third.then("setMood(4, 0)"), "way(2, 2)", 1);
    }

    private static void moodOfAWay() {
        sentence("The mood of a way is the sum of the moods of its pages, in their order, the first and the last one, too,"
            + " beginning with 0.0f, as floats.");
        due(Tape.NEW, "wayMood()", NONE);
        due(Tape.pages(1), "wayMood()", NONE);
        due(Tape.of("addPage(1, 0, 0)"), "wayMood()", bits(1));
        due(Tape.of("addPage(99, 0, 0)"), "wayMood()", bits(99));
        due(chain(0, 1), "wayMood()", bits(1));
        due(chain(1, 2), "wayMood()", Float.floatToIntBits(0.1f + 0.2f));
        due(chain(-1, 1), "wayMood()", 0);
        due(chain(-99, 1), "wayMood()", Float.floatToIntBits(-9.9f + 0.1f));
        due(chain(7, 1, 1), "wayMood()", Float.floatToIntBits(0.7f + 0.1f + 0.1f));
        dueOfSum(-3, 1, 2);
        dueOfSum(1, 2, -3, 1);
        dueOfSum(99, -98, 1, -1, 37, -38, 1);
        int[] best = new int[32];
        int[] worst = new int[32];
        int[] mixed = new int[32];
        for (int i = 0; i < 32; i++) {
            best[i] = 99;
            worst[i] = i == 31 ? 1 : -99;
            mixed[i] = i == 31 ? 99 : i * 37 % 199 - 99;
        }
        dueOfSum(best);
        dueOfSum(worst);
        dueOfSum(mixed);

        // A page that is passed twice counts twice.
        Tape twice = Tape.of("addPage(3, 0, 0)", "addPage(5, 1, 0)", "addPage(1, 0, 0)")
            .typing("0>1;1>0;0>2+a").then("addChoices()");
        due(twice, "count(8)", 3);
        due(twice, "wayMood()", Float.floatToIntBits(0.3f + 0.5f + 0.3f + 0.1f));
    }

    /**
     * A counter of five flags: 0 to 4 ask for the lowest flag that is not there, 5 to 9 set it and take away
     * those below, 11 to 31 lead back to 0, and the happy end 10 opens when all five are there.
     */
    private static Tape counter(int[] tenths) {
        Tape book = Tape.NEW;
        for (int page = 0; page < 32; page++) {
            int flag = page >= 5 && page < 10 ? 1 << page - 5 : 0;
            book = book.then(call("addPage", tenths[page], flag, flag == 0 ? 0 : flag - 1));
        }
        for (int flag = 0; flag < 5; flag++) {
            book = book.then(call("addChoice", flag, flag + 5, 0, 1 << flag),
                call("addChoice", flag, flag == 4 ? 10 : flag + 1, 1 << flag, 0), call("addChoice", flag + 5, 11, 0, 0));
        }
        for (int page = 11; page < 32; page++) {
            book = book.then(call("addChoice", page, (page + 1) % 32, 0, 0));
        }
        return book;
    }

    /** The only way through the counter, as page, flags and choice of each step. */
    private static List<int[]> wayOfCounter() {
        List<int[]> way = new ArrayList<>();
        for (int value = 0; value < 32; value++) {
            int flag = 0;
            while (flag < 5 && (value >> flag & 1) == 1) {
                way.add(new int[] {flag, value, 1});
                flag++;
            }
            if (flag == 5) {
                way.add(new int[] {10, value, NONE});
                break;
            }
            way.add(new int[] {flag, value, 0});
            way.add(new int[] {flag + 5, value + 1, 0});
            for (int page = 11; page < 32; page++) {
                way.add(new int[] {page, value + 1, 0});
            }
        }
        return way;
    }

    private static void longWay() {
        sentence("The shortest happy way, by more choices than there are pages, or calls of an object.");
        int[] same = new int[32];
        Arrays.fill(same, 1);
        Tape book = counter(same);
        List<int[]> way = wayOfCounter();
        int last = way.size() - 1;
        SHEET.due("the choices of the way of the counter", last, 744);
        due(book, "count(8)", last);
        for (int step = 0; step <= last; step++) {
            PathBook x = book.play();
            for (int what = 0; what < 3; what++) {
                SHEET.due("counter: " + call("way", step, what), x.way(step, what), way.get(step)[what]);
            }
        }
        due(book, call("way", last + 1, 0), NONE);
        due(book, "count(5)", last + 1);
        due(book, "count(4)", 0);
        // All but the end and 9: nothing takes the highest flag away again.
        due(book, "count(3)", 30);
        due(book, "page(9, 6)", 0);
        due(book, "page(8, 6)", 1);
        due(book, "page(10, 9)", last);
        due(book, "page(31, 8)", 31);
        due(book, "page(0, 8)", 32);
        // Each of its places is stuck without the end.
        Tape shut = book.then("takeChoice(4, 1)");
        due(shut, "count(4)", last);
        due(shut, "count(5)", last);
        due(shut, "count(8)", NONE);
        due(shut, "page(31, 7)", 1);
        moodOfALongWay(way);
    }

    /** Sums of thousands, where a tenth is no longer told exactly; and sums that come back to nearly nothing. */
    private static void moodOfALongWay(List<int[]> way) {
        for (int turn = 0; turn < 6; turn++) {
            int[] tenths = new int[32];
            for (int page = 0; page < 32; page++) {
                int[] moods = {1, 99, -99, page * 53 % 199 - 99, page % 2 == 0 ? 98 : -99, page < 10 ? 0 : page % 3 - 1};
                tenths[page] = page == 10 ? 7 : moods[turn];
            }
            float sum = 0.0f;
            for (int[] step : way) {
                sum += (float) tenths[step[0]] / 10.0f;
            }
            due(counter(tenths), "wayMood()", Float.floatToIntBits(sum));
        }
    }

    /**
     * A counter of five flags that goes up, by which each place of a counter that goes down is come to early:
     * but the end, 31, opens only when that one has gone down to nothing. By pages: 0 begins; 1 to 5 ask for the
     * lowest flag that is not there, 6 to 10 set it; 11 to 15 ask for the lowest one that is there, 16 to 20 take
     * it away; 21 to 25 lead up, 26 to 30 lead down.
     */
    private static Tape upAndDown(int end) {
        Tape book = Tape.NEW;
        for (int page = 0; page < 32; page++) {
            int up = page >= 6 && page <= 10 ? 1 << page - 6 : 0;
            int down = page >= 16 && page <= 20 ? 1 << page - 16 : 0;
            book = book.then(call("addPage", 0, up + (down == 0 ? 0 : down - 1), down + (up == 0 ? 0 : up - 1)));
        }
        book = book.then("addChoice(0, 21, 0, 0)");
        for (int i = 0; i < 5; i++) {
            book = book.then(
                call("addChoice", 1 + i, 6 + i, 0, 1 << i), call("addChoice", 1 + i, i < 4 ? 2 + i : 11, 1 << i, 0),
                call("addChoice", 6 + i, 21, 0, 0), call("addChoice", 6 + i, 11, 0, 0),
                call("addChoice", 11 + i, 16 + i, 1 << i, 0), call("addChoice", 11 + i, i < 4 ? 12 + i : end, 0, 1 << i),
                call("addChoice", 16 + i, 30, 0, 0),
                call("addChoice", 21 + i, i < 4 ? 22 + i : 1, 0, 0), call("addChoice", 21 + i, 26 + i, 0, 0),
                call("addChoice", 26 + i, i > 0 ? 25 + i : 11, 0, 0));
        }
        return book;
    }

    private static void farOff() {
        sentence("No end can be come to from it; one can come to a place with it: by ways of hundreds of choices.");
        Tape book = upAndDown(31);
        // The pages 21 to 30 and 11 with all sets of flags.
        for (int page = 21; page <= 30; page++) {
            due(book, call("page", page, 8), 32);
        }
        due(book, "page(11, 8)", 32);
        due(book, "count(2)", 0);
        due(book, "count(4)", 0);
        due(book, "count(6)", 1);
        // What sets the highest flag is passed once on the way up; on the way down, nothing leads up again.
        due(book, "page(10, 6)", 0);
        due(book, "page(20, 6)", 0);
        due(book, "page(0, 6)", 0);
        due(book, "page(6, 6)", 1);

        Tape round = upAndDown(0);
        due(round, "count(2)", 1);
        due(round, "count(6)", 0);
        for (int page = 0; page < 31; page++) {
            due(round, call("page", page, 6), 1);
            due(round, call("page", page, 7), 1);
        }
        due(round, "count(3)", 31);
        SHEET.due(round + ": all places are stuck", round.answer("count(4)"), round.answer("count(5)"));

        Tape open = round.then("addChoice(15, 31, 0, 31)");
        due(open, "count(3)", 31);
        due(open, "count(4)", 0);
        due(open, "count(2)", 0);
    }

    private static void dueOfSum(int... tenths) {
        float sum = 0.0f;
        for (int mood : tenths) {
            sum += (float) mood / 10.0f;
        }
        due(chain(tenths), "wayMood()", Float.floatToIntBits(sum));
    }

    // ---- readers

    private static void readers() {
        sentence("There are two readers, 0 and 1; each is at a place, or has not begun.");
        Tape book = Tape.of("addPage(0, 1, 0)", "addPage(0, 2, 1)").typing("0>1;1>0").then("addChoices()");
        for (int reader = 0; reader < 2; reader++) {
            int other = 1 - reader;
            Tape one = book.then(call("begin", reader));
            due(one, call("reader", reader, 0), 0);
            due(one, call("reader", other, 0), NONE);
            due(one, call("why", other, 0), 1);
            due(one, call("choose", other, 0), NOT);
            due(one, call("mark", other), NOT);
            Tape both = one.then(call("begin", other), call("choose", other, 0));
            due(both, call("reader", reader, 0), 0);
            due(both, call("reader", reader, 1), 1);
            due(both, call("reader", reader, 3), 0);
            due(both, call("reader", other, 0), 1);
            due(both, call("reader", other, 1), 2);
            due(both, call("reader", other, 3), 1);
        }
    }

    private static void bookmark() {
        sentence("The bookmark holds a place, or nothing; it is one for both.");
        Tape book = Tape.of("addPage(0, 1, 0)", "addPage(0, 2, 1)").typing("0>1;1>0").then("addChoices()");
        due(book, "count(9)", 0);
        Tape two = book.then("begin(0)", "begin(1)", "choose(1, 0)");
        due(two, "count(9)", 0);
        Tape marked = two.then("mark(0)");
        due(marked, "count(9)", 1);
        due(marked, "goToMark(1)", 0);
        due(marked, "goToMark(0)", NONE);
        Tape over = marked.then("mark(1)");
        due(over, "count(9)", 1);
        due(over, "goToMark(0)", 1);
        due(over, "goToMark(1)", NONE);
        due(over, "mark(0)", 0);
        due(over.then("begin(0)"), "count(9)", 1);
        due(over.then("goToMark(0)"), "count(9)", 1);
        due(over.then("goToMark(0)"), "mark(0)", NONE);
    }

    private static void readersStay() {
        sentence("If pages or choices are changed, readers stay where they are, with the flags that they have;"
            + " so does the bookmark.");
        Tape book = Tape.of("addPage(0, 1, 0)", "addPage(9, 2, 1)", "addPage(0, 4, 0)")
            .typing("0>1;1>2;2>0").then("addChoices()", "begin(0)", "choose(0, 0)", "mark(0)", "choose(0, 0)",
                "begin(1)", "choose(1, 0)", "choose(1, 0)", "choose(1, 0)");
        String[] acts = {"addPage(0, 31, 31)", "setMood(0, 7)", "setMood(1, -7)", "setMood(2, 7)", "addChoice(0, 0, 0, 0)",
            "addChoice(1, 1, 31, 31)", "addChoice(2, 2, 0, 31)", "addChoices()", "takeChoice(0, 0)", "takeChoice(1, 0)",
            "takeChoice(2, 0)"};
        for (String act : acts) {
            Tape changed = book.then(act);
            dueOfReaders(changed, 2, 2 | 4, 2, 0, 1 | 2 | 4, 3);
            due(changed, "count(9)", 1);
            due(changed, "goToMark(0)", 1);
            due(changed.then("goToMark(0)"), "reader(0, 1)", 2);
        }
        sentence("exchange: readers and the bookmark are at the same pages as before.");
        dueOfReaders(book.then("exchange(0, 2)"), 0, 2 | 4, 2, 2, 1 | 2 | 4, 3);
        dueOfReaders(book.then("exchange(2, 1)"), 1, 2 | 4, 2, 0, 1 | 2 | 4, 3);
        due(book.then("exchange(2, 0)"), "goToMark(0)", 1);
        due(book.then("exchange(2, 1)"), "goToMark(0)", 2);
        due(book.then("exchange(0, 1)"), "goToMark(1)", 0);
        due(book.then("exchange(0, 1)", "goToMark(1)"), "reader(1, 1)", 2);
        for (int flags = 0; flags < 32; flags++) {
            Tape any = Tape.of("addPage(0, 0, 0)", call("addPage", 0, flags, 0), "addChoice(0, 1, 0, 0)", "begin(1)",
                "choose(1, 0)", "mark(1)", "exchange(1, 0)");
            due(any, "reader(1, 0)", 0);
            due(any, "reader(1, 1)", flags);
            due(any, "goToMark(0)", 0);
            due(any.then("goToMark(0)"), "reader(0, 1)", flags);
        }
    }

    private static void dueOfReaders(Tape tape, int page0, int flags0, int taken0, int page1, int flags1, int taken1) {
        due(tape, "reader(0, 0)", page0);
        due(tape, "reader(0, 1)", flags0);
        due(tape, "reader(0, 3)", taken0);
        due(tape, "reader(1, 0)", page1);
        due(tape, "reader(1, 1)", flags1);
        due(tape, "reader(1, 3)", taken1);
    }

    // ---- texts

    private static void textLength() {
        sentence("There is a text of at most 60 characters, empty at first.");
        due(Tape.NEW, "count(11)", 0);
        due(Tape.NEW, "clearText()", 0);
        Tape text = Tape.NEW;
        for (int length = 1; length <= 60; length++) {
            due(text, "type(120)", length);
            text = text.then("type(120)");
            due(text, "count(11)", length);
            due(text, "clearText()", length);
        }
        due(text, "type(120)", FULL);
        due(text.then("type(120)"), "count(11)", 60);
        due(text.then("clearText()"), "count(11)", 0);
        due(text.then("clearText()"), "clearText()", 0);
        due(text.then("clearText()"), "type(120)", 1);
        due(text.then("clearText()").times(59, "type(120)"), "type(120)", 60);

        sentence("type: any character.");
        for (int sign : new int[] {0, 1, 9, 10, 13, 32, 127, 128, 255, 256, 0x661, 0xd800, 0xdfff, 0xfffe, 0xffff}) {
            due(Tape.NEW, call("type", sign), 1);
            due(Tape.NEW.then(call("type", sign)), "clearText()", 1);
        }

        sentence("clearText: empties the text.");
        due(Tape.pages(2).typing("0>1;"), "addChoices()", -104);
        due(Tape.pages(2).typing("0>1;").then("clearText()"), "addChoices()", -100);
        due(Tape.pages(2).typing("x").then("clearText()").typing("0>1"), "addChoices()", 1);
        due(Tape.pages(2).typing("0>1;1>0").then("clearText()").typing("0"), "addChoices()", -101);
    }

    // ---- history

    private static void historyLength() {
        sentence("A history of at most 4 states is kept; when one more is recorded, the oldest one is dropped;"
            + " undo() removes and restores the latest one.");
        for (int acts = 0; acts <= 32; acts++) {
            Tape book = Tape.pages(acts);
            int states = Math.min(4, acts);
            due(book, "count(10)", states);
            for (int back = 1; back <= states; back++) {
                due(book, "undo()", states - back);
                book = book.then("undo()");
                due(book, "count(10)", states - back);
                due(book, "count(0)", acts - back);
            }
            due(book, "undo()", NONE);
            due(book.then("undo()"), "count(0)", acts - states);
        }
        // Removed and recorded by turns, so that the history goes round.
        Tape turns = Tape.pages(4);
        for (int i = 0; i < 20; i++) {
            turns = turns.then("undo()", "undo()", "addPage(0, 0, 0)", "addPage(0, 0, 0)", "addPage(0, 0, 0)");
            due(turns, "count(10)", 4);
            due(turns, "count(0)", 5 + i);
            due(turns.times(4, "undo()"), "count(0)", 1 + i);
        }
    }

    /** Behind this tape every act can be made: a text that holds, a bookmark elsewhere, a snapshot of another book. */
    private static Tape ready() {
        return Tape.of("addPage(1, 1, 0)", "keep()", "addPage(-2, 2, 1)", "addPage(3, 4, 0)")
            .typing("0>1;1>2;2>0+b").then("addChoices()", "begin(0)", "mark(0)", "choose(0, 0)");
    }

    private static void actsAreRecorded() {
        sentence("Each call of a method that is described as an act, and returns no error and not NONE,"
            + " records the state that was before it.");
        String[] acts = {"addPage(1, 2, 3)", "setMood(1, 0)", "addChoice(2, 2, 1, 1)", "addChoices()", "takeChoice(1, 0)",
            "exchange(0, 1)", "begin(0)", "begin(1)", "choose(0, 0)", "mark(0)", "goToMark(0)", "goToMark(1)", "restore()"};
        Tape full = ready();
        due(full, "count(10)", 4);
        for (String act : acts) {
            dueOfRecord(full, act);
        }
        Tape two = full.then("undo()", "undo()", "mark(0)", "undo()");
        due(two, "count(10)", 2);
        for (String act : new String[] {"addPage(1, 2, 3)", "setMood(1, 0)", "addChoice(2, 2, 1, 1)", "addChoices()",
            "takeChoice(0, 0)", "exchange(0, 1)", "begin(0)", "begin(1)", "choose(0, 0)", "mark(0)", "restore()"}) {
            dueOfRecord(two, act);
        }
        Tape none = full.times(4, "undo()");
        due(none, "count(10)", 0);
        for (String act : new String[] {"addPage(1, 2, 3)", "setMood(1, 0)", "addChoice(2, 2, 1, 1)", "addChoices()",
            "exchange(0, 1)", "begin(0)", "begin(1)", "restore()"}) {
            dueOfRecord(none, act);
        }

        sentence("An act that returns neither an error nor NONE is recorded, also if it changes nothing.");
        Tape begun = Tape.pages(1).then("begin(0)", "keep()");
        for (String act : new String[] {"begin(0)", "restore()"}) {
            due(begun.then(act), "count(10)", 3);
            SHEET.same(act, begun.then(act).state(), begun.state());
            SHEET.same(act, begun.then(act, "undo()").everything(), begun.everything());
        }
    }

    private static void dueOfRecord(Tape before, String act) {
        SHEET.due(before + ": " + act + " is taken", before.answer(act) >= 0 ? 1 : 0, 1);
        int states = before.answer("count(10)");
        Tape behind = before.then(act);
        due(behind, "count(10)", Math.min(4, states + 1));
        due(behind, "undo()", Math.min(3, states));
        SHEET.same(act + " undone", behind.then("undo()").state(), before.state());
        // The states below it are the newest that were there.
        int left = Math.min(3, states);
        Tape one = behind.then("undo()");
        Tape other = before;
        for (int i = 0; i < left; i++) {
            one = one.then("undo()");
            other = other.then("undo()");
            SHEET.same(act + ", " + (i + 1) + " further back", one.state(), other.state());
        }
        due(one, "undo()", NONE);
    }

    private static void othersAreNotRecorded() {
        sentence("type, clearText, keep and what is told are no acts: they record nothing.");
        String[] others = {"type(48)", "clearText()", "keep()", "page(0, 8)", "choice(0, 0, 3)", "reader(0, 2)", "why(0, 0)",
            "way(0, 0)", "wayMood()", "count(4)"};
        for (Tape book : new Tape[] {ready(), ready().then("undo()"), Tape.pages(1), Tape.NEW}) {
            for (String call : others) {
                SHEET.same(book + ": " + call, book.then(call).history(), book.history());
                SHEET.same(book + ": " + call, book.then(call).state(), book.state());
            }
        }
        sentence("undo is no act: what it removes is gone.");
        due(ready().then("undo()"), "count(10)", 3);
        due(ready().then("undo()", "undo()", "undo()", "undo()"), "count(10)", 0);
        due(ready().then("undo()", "undo()", "undo()", "undo()"), "undo()", NONE);
    }

    private static void snapshot() {
        sentence("There is one snapshot, empty at first.");
        due(Tape.NEW, "restore()", NONE);
        due(Tape.pages(5), "restore()", NONE);
        due(Tape.NEW, "keep()", 0);
        due(Tape.NEW.then("keep()"), "restore()", 0);
        due(Tape.NEW.then("keep()", "addPage(0, 0, 0)"), "restore()", 0);
        due(Tape.NEW.then("keep()", "addPage(0, 0, 0)", "restore()"), "count(0)", 0);
        due(Tape.pages(32), "keep()", 32);
        due(Tape.pages(32).then("keep()", "undo()"), "restore()", 32);
        due(Tape.pages(2).then("keep()", "addPage(0, 0, 0)", "keep()", "undo()"), "restore()", 3);
        SHEET.same("the snapshot stays", ready().then("restore()").snapshot(),
            ready().snapshot());
        SHEET.same("restored twice", ready().then("restore()", "restore()").state(), ready().then("restore()").state());
        SHEET.same("restored, changed, restored", ready().then("restore()", "addPage(9, 9, 9)", "begin(1)", "restore()").state(),
            ready().then("restore()").state());
        SHEET.same("kept, changed, restored", ready().then("keep()", "exchange(0, 2)", "begin(1)", "mark(1)", "restore()").state(),
            ready().state());
    }

    private static void state() {
        sentence("A state is everything but the text, the history and the snapshot.");
        // undo() and restore() bring back none of the three.
        Tape book = Tape.pages(2).typing("0>1").then("begin(0)");
        due(book.then("type(59)", "undo()"), "count(11)", 4);
        due(book.then("clearText()", "undo()"), "count(11)", 0);
        due(book.then("keep()", "clearText()", "restore()"), "count(11)", 0);
        due(book.then("keep()", "type(59)", "restore()"), "addChoices()", -104);
        due(book.then("keep()", "undo()"), "restore()", 2);
        due(book.then("keep()", "undo()", "restore()"), "reader(0, 0)", 0);
        due(book.then("keep()", "begin(1)", "restore()"), "count(10)", 4);
        due(Tape.pages(1).then("keep()", "restore()"), "count(10)", 2);
        SHEET.same("an undo leaves the snapshot", ready().then("undo()").snapshot(),
            ready().snapshot());
        // All the rest comes back, whatever was changed.
        Tape all = ready().then("keep()", "clearText()").typing("2>1+e-a");
        for (String act : new String[] {"addPage(1, 2, 3)", "setMood(1, 0)", "addChoice(2, 2, 1, 1)", "addChoices()",
            "takeChoice(1, 0)", "exchange(0, 1)", "begin(0)", "begin(1)", "choose(0, 0)", "mark(0)", "goToMark(0)"}) {
            SHEET.differ(act + " changes the state", all.then(act).state(), all.state());
            SHEET.same(act + " and undo()", all.then(act, "undo()").state(), all.state());
            SHEET.same(act + " and restore()", all.then(act, "restore()").state(), all.state());
        }
        Tape many = all.then("addPage(5, 1, 0)", "exchange(0, 3)", "begin(0)", "mark(0)");
        SHEET.same("many acts and restore()", many.then("restore()").state(), all.state());
        SHEET.same("and undo()", many.then("restore()", "undo()").state(), many.state());
    }

    private static void lastCall() {
        sentence("An object is used for at most 512 calls: the last one is answered, too.");
        Tape book = Tape.book(1, "0>0").then("begin(1)");
        int left = 511 - book.length();
        due(book.times(left, "choose(1, 0)"), "reader(1, 3)", left);
        due(book.times(left, "choose(1, 0)"), "choose(1, 0)", 0);
        due(book.times(left, "begin(0)"), "count(10)", 4);
        due(book.times(left, "undo()"), "undo()", NONE);
        due(Tape.NEW.times(511, "addPage(0, 0, 0)"), "addPage(0, 0, 0)", FULL);
        due(Tape.NEW.times(511, "addPage(0, 0, 0)"), "count(0)", 32);
        due(Tape.NEW.times(511, "type(0)"), "type(0)", FULL);
        due(Tape.NEW.times(511, "keep()"), "restore()", 0);
    }

    // ---- the promises

    private static void answersOfPages() {
        sentence("setMood returns how many choices it has.");
        for (int choices = 0; choices <= 3; choices++) {
            Tape book = Tape.pages(2).times(choices, "addChoice(1, 0, 0, 0)");
            due(book, "setMood(1, 99)", choices);
            due(book, "setMood(1, -99)", choices);
            due(book, "setMood(0, 1)", 0);
        }
        sentence("addChoices: all of them, or none; this is one act; returns how many the text has.");
        Tape five = Tape.book(5, "0>0;0>1;0>2;1>0;1>1;1>2;2>0;2>1;2>2;3>0;3>1;3>2;4>0;4>1;4>2");
        due(five, "count(11)", 59);
        due(five, "count(1)", 15);
        due(five, "count(10)", 4);
        due(five.then("undo()"), "count(1)", 0);
        due(five.then("undo()"), "addChoices()", 15);
        due(five.then("undo()"), "count(11)", 59);
        due(five, "addChoices()", FULL);
        due(Tape.pages(2).typing("0>1"), "addChoices()", 1);
        due(Tape.book(2, "0>1"), "count(11)", 3);
        due(Tape.book(2, "0>1"), "addChoices()", 1);
        due(Tape.book(2, "0>1").then("addChoices()", "addChoices()"), "addChoices()", FULL);
        Tape order = Tape.book(3, "0>2+a;0>1-b;0>0+ab-cde");
        due(order, "choice(0, 0, 0)", 2);
        due(order, "choice(0, 1, 2)", 2);
        due(order, "choice(0, 2, 1)", 3);
        due(order, "choice(0, 2, 2)", 28);

        sentence("takeChoice: those behind it move up; returns the page to which it led.");
        Tape three = Tape.book(4, "0>1+a-b;0>2+c-d;0>3+e;1>0;1>1;1>2");
        for (int choice = 0; choice < 3; choice++) {
            due(three, call("takeChoice", 0, choice), choice + 1);
            Tape taken = three.then(call("takeChoice", 0, choice));
            due(taken, "page(0, 0)", 2);
            due(taken, "choice(0, 2, 0)", UNKNOWN);
            due(taken, "choice(0, 0, 0)", choice == 0 ? 2 : 1);
            due(taken, "choice(0, 0, 1)", choice == 0 ? 4 : 1);
            due(taken, "choice(0, 0, 2)", choice == 0 ? 8 : 2);
            due(taken, "choice(0, 1, 0)", choice == 2 ? 2 : 3);
            due(taken, "choice(0, 1, 1)", choice == 2 ? 4 : 16);
            due(taken, "choice(0, 1, 2)", choice == 2 ? 8 : 0);
            due(taken, "choice(1, 2, 0)", 2);
            due(taken, "addChoice(0, 0, 0, 0)", 2);
        }
        due(ring(), "takeChoice(31, 0)", 0);
        due(ring(), "takeChoice(30, 0)", 31);
        exchanges();
    }

    private static void exchanges() {
        sentence("exchange: they exchange their numbers; choices lead to the same pages as before;"
            + " returns how many choices lead to one of both.");
        due(Tape.pages(2), "exchange(0, 1)", 0);
        due(Tape.pages(32), "exchange(31, 0)", 0);
        due(Tape.book(2, "0>0"), "exchange(0, 1)", 1);
        due(Tape.book(2, "0>0;0>1;1>0"), "exchange(1, 0)", 3);
        due(Tape.book(3, "0>2;1>2;2>2;2>0"), "exchange(0, 1)", 1);
        due(ring(), "exchange(0, 31)", 2);
        Tape full = Tape.pages(32);
        for (int i = 0; i < 96; i++) {
            full = full.then(call("addChoice", i / 3, i % 2 * 31, 0, 0));
        }
        due(full, "exchange(31, 0)", 96);
        due(full.then("exchange(31, 0)"), "choice(31, 0, 0)", 31);
        due(full.then("exchange(31, 0)"), "choice(5, 0, 0)", 0);
        due(full.then("exchange(31, 0)"), "choice(0, 0, 0)", 0);
        due(full.then("exchange(31, 0)"), "choice(0, 1, 0)", 31);
        due(full.then("exchange(31, 0)"), "choice(31, 2, 0)", 31);

        Tape book = Tape.of("addPage(1, 1, 2)", "addPage(2, 4, 8)", "addPage(3, 16, 0)")
            .typing("0>1+a;0>2-b;1>1").then("addChoices()");
        Tape swapped = book.then("exchange(0, 2)");
        due(swapped, "page(0, 0)", 0);
        due(swapped, "page(0, 1)", 16);
        due(swapped, "page(0, 3)", bits(3));
        due(swapped, "page(2, 0)", 2);
        due(swapped, "page(2, 2)", 2);
        due(swapped, "choice(2, 0, 0)", 1);
        due(swapped, "choice(2, 0, 1)", 1);
        due(swapped, "choice(2, 1, 0)", 0);
        due(swapped, "choice(2, 1, 2)", 2);
        due(swapped, "choice(1, 0, 0)", 1);
        SHEET.same("exchanged twice", book.then("exchange(0, 2)", "exchange(2, 0)").state(), book.state());
        SHEET.same("either way round", book.then("exchange(2, 0)").state(), swapped.state());

        sentence("exchange: the first place is by the page that has the number 0 then.");
        due(swapped, "begin(0)", 16);
        due(swapped, "page(2, 5)", 1);
        due(swapped, "count(5)", 1);
        due(book.then("exchange(1, 2)"), "begin(0)", 1);
    }

    private static void answersOfReaders() {
        sentence("begin returns the flags of the first place.");
        due(Tape.pages(1), "begin(1)", 0);
        due(Tape.of("addPage(0, 17, 31)"), "begin(0)", 17);

        sentence("choose returns the page to which the reader comes.");
        Tape book = Tape.pages(32).then("addChoice(0, 31, 0, 0)", "addChoice(0, 0, 0, 0)", "addChoice(0, 30, 0, 0)",
            "addChoice(31, 0, 0, 0)", "begin(0)", "begin(1)");
        due(book, "choose(0, 0)", 31);
        due(book, "choose(0, 1)", 0);
        due(book, "choose(1, 2)", 30);
        due(book.then("choose(1, 0)"), "choose(1, 0)", 0);
        due(book.then("choose(1, 0)"), "mark(1)", 31);
        due(book.then("choose(1, 0)", "mark(1)"), "goToMark(0)", 31);

        sentence("goToMark: a reader, also one who has not begun, goes to the place of the bookmark, which stays.");
        Tape marked = Tape.of("addPage(0, 8, 0)", "addPage(0, 2, 0)", "addChoice(0, 1, 0, 0)", "addChoice(1, 1, 0, 0)",
            "begin(0)", "choose(0, 0)", "mark(0)");
        due(marked, "reader(1, 0)", NONE);
        due(marked, "goToMark(1)", 1);
        Tape gone = marked.then("goToMark(1)");
        due(gone, "reader(1, 0)", 1);
        due(gone, "reader(1, 1)", 10);
        due(gone, "reader(1, 3)", 0);
        due(gone, "reader(0, 3)", 1);
        due(gone, "count(9)", 1);
        due(gone, "goToMark(1)", NONE);
        due(gone.then("begin(1)"), "goToMark(1)", 1);
        due(gone.then("undo()"), "reader(1, 0)", NONE);
        // There already, though by two choices: NONE, and the choices stay counted.
        due(gone.then("choose(1, 0)", "choose(1, 0)"), "goToMark(1)", NONE);
        due(gone.then("choose(1, 0)", "choose(1, 0)", "goToMark(1)"), "reader(1, 3)", 2);
    }

    private static void answersOfHistory() {
        sentence("undo returns the number of states that are left.");
        for (int acts = 1; acts <= 6; acts++) {
            due(Tape.pages(acts), "undo()", Math.min(4, acts) - 1);
        }
        sentence("keep and restore return how many pages there are.");
        for (int pages = 0; pages <= 32; pages += 8) {
            due(Tape.pages(pages), "keep()", pages);
            due(Tape.pages(pages).then("keep()"), "restore()", pages);
        }
        due(Tape.pages(3).then("keep()", "undo()", "undo()"), "restore()", 3);
        due(Tape.pages(3).then("keep()", "undo()", "keep()"), "restore()", 2);
    }

    private static void toldOfPages() {
        sentence("page: what is 0 to 10.");
        Tape book = Tape.of("addPage(-5, 31, 30)", "addPage(4, 0, 0)").typing("0>0+abcde;0>1;0>0-a;1>0").then("addChoices()");
        int[] first = {3, 31, 30, bits(-5), 0, 0, 1, 1, 1, 0, 3};
        int[] second = {1, 0, 0, bits(4), 0, 0, 1, 1, 1, 1, 1};
        for (int what = 0; what <= 10; what++) {
            due(book, call("page", 0, what), first[what]);
            due(book, call("page", 1, what), second[what]);
        }
        sentence("page: the fewest choices by which it can be come to (NONE if it is dead).");
        due(Tape.pages(2), "page(0, 9)", 0);
        due(Tape.pages(2), "page(1, 9)", NONE);
        due(Tape.book(1, "0>0"), "page(0, 9)", 0);
        due(Tape.book(3, "0>1;1>2;0>2"), "page(2, 9)", 1);
        for (int page = 0; page < 32; page++) {
            due(ring(), call("page", page, 9), page);
        }
        // Of several places with a page the nearest one.
        Tape several = Tape.of("addPage(0, 0, 0)", "addPage(0, 1, 0)", "addPage(0, 0, 0)").typing("0>1;0>2;1>2")
            .then("addChoices()");
        due(several, "page(2, 9)", 1);
        due(several, "page(2, 8)", 2);
        due(several.then("takeChoice(0, 1)"), "page(2, 9)", 2);

        sentence("page: the choices of all pages that lead to it.");
        due(Tape.pages(1), "page(0, 10)", 0);
        due(Tape.book(2, "0>0;0>0;0>0;1>0;1>0;1>0"), "page(0, 10)", 6);
        due(Tape.book(2, "0>0;0>0;0>0;1>0;1>0;1>0"), "page(1, 10)", 0);
        due(Tape.book(2, "0>0;0>0").then("takeChoice(0, 1)"), "page(0, 10)", 1);
        Tape full = Tape.pages(32);
        for (int i = 0; i < 96; i++) {
            full = full.then(call("addChoice", i / 3, 31, 31, 31));
        }
        due(full, "page(31, 10)", 96);
        due(full, "page(0, 10)", 0);
    }

    private static void toldOfChoices() {
        sentence("choice: whether it can be taken at any place that can be come to.");
        due(Tape.book(1, "0>0"), "choice(0, 0, 3)", 1);
        due(Tape.book(1, "0>0+a"), "choice(0, 0, 3)", 0);
        due(Tape.book(2, "1>0"), "choice(1, 0, 3)", 0);
        due(Tape.book(2, "0>1;1>0"), "choice(1, 0, 3)", 1);
        due(ring(), "choice(31, 0, 3)", 1);
        // Of a dead page, whatever can be taken at its neighbours in the binding.
        due(Tape.book(3, "0>2;1>0;2>0"), "choice(1, 0, 3)", 0);
        due(Tape.of("addPage(0, 31, 0)", "addPage(0, 31, 0)").typing("0>0;1>0").then("addChoices()"), "choice(1, 0, 3)", 0);
        // At one of two places is enough, be it the first or the last one.
        Tape two = Tape.of("addPage(0, 0, 0)", "addPage(0, 16, 0)").typing("0>1;1>0;0>0+e;0>0-e;1>1-e").then("addChoices()");
        due(two, "choice(0, 1, 3)", 1);
        due(two, "choice(0, 2, 3)", 1);
        due(two, "choice(1, 1, 3)", 0);
        // What a reader could take does not count.
        Tape left = two.then("begin(0)", "choose(0, 0)", "takeChoice(0, 0)");
        due(left, "reader(0, 2)", 1);
        due(left, "choice(1, 0, 3)", 0);
    }

    private static void toldOfReaders() {
        sentence("reader: the choices that can be taken now (a set, as bits).");
        due(Tape.pages(1).then("begin(0)"), "reader(0, 2)", 0);
        for (int open = 0; open < 8; open++) {
            Tape book = Tape.of("addPage(0, 1, 0)");
            for (int choice = 0; choice < 3; choice++) {
                book = book.then(call("addChoice", 0, 0, 1, (open >> choice & 1) == 1 ? 30 : 31));
            }
            due(book.then("begin(0)"), "reader(0, 2)", open);
            due(book.then("begin(1)"), "reader(1, 2)", open);
        }
        due(Tape.book(1, "0>0").then("begin(0)"), "reader(0, 2)", 1);
        due(Tape.book(1, "0>0").then("begin(0)", "takeChoice(0, 0)"), "reader(0, 2)", 0);

        sentence("reader: the choices taken since the reader began, or went to the bookmark.");
        Tape walk = Tape.book(1, "0>0").then("begin(0)");
        due(walk, "reader(0, 3)", 0);
        due(walk.then("choose(0, 0)"), "reader(0, 3)", 1);
        due(walk.then("choose(0, 0)", "choose(0, 1)"), "reader(0, 3)", 1);
        due(walk.then("choose(0, 0)", "begin(0)"), "reader(0, 3)", 0);
        due(walk.then("choose(0, 0)", "undo()"), "reader(0, 3)", 0);
        due(walk.times(300, "choose(0, 0)"), "reader(0, 3)", 300);
        due(walk.then("choose(0, 0)", "mark(0)"), "reader(0, 3)", 1);
    }

    private static void reasons() {
        sentence("why: 1 if the reader has not begun, 2 if the page has no such choice, 3 if a flag that is needed is missing,"
            + " 4 if a flag bars it, otherwise 0.");
        for (int reader = 0; reader < 2; reader++) {
            Tape none = Tape.pages(1);
            for (int choice = 0; choice < 3; choice++) {
                due(Tape.NEW, call("why", reader, choice), 1);
                due(none, call("why", reader, choice), 1);
                due(none.then(call("begin", reader)), call("why", reader, choice), 2);
            }
            Tape three = Tape.of("addPage(0, 16, 0)").typing("0>0+d-e;0>0+e-e;0>0+e-d").then("addChoices()");
            due(three, call("why", reader, 0), 1);
            Tape begun = three.then(call("begin", reader));
            due(begun, call("why", reader, 0), 3);
            due(begun, call("why", reader, 1), 4);
            due(begun, call("why", reader, 2), 0);
            due(begun.then("takeChoice(0, 2)"), call("why", reader, 2), 2);
            due(begun, call("why", 1 - reader, 2), 1);
        }
    }

    private static void toldOfWays() {
        sentence("way: step 0 for the first place; the choice that leads on from there (NONE at the end);"
            + " NONE if there is no happy way, or it has not so many.");
        for (int what = 0; what < 3; what++) {
            due(Tape.NEW, call("way", 0, what), NONE);
            due(Tape.pages(1), call("way", 0, what), NONE);
            due(Tape.of("addPage(1, 0, 0)"), call("way", 1, what), NONE);
            due(Tape.of("addPage(1, 0, 0)"), "way(MAX, " + what + ")", NONE);
            due(chain(0, 0, 1), call("way", 3, what), NONE);
        }
        Tape one = Tape.of("addPage(1, 21, 31)");
        due(one, "way(0, 0)", 0);
        due(one, "way(0, 1)", 21);
        due(one, "way(0, 2)", NONE);
        int[] moods = new int[32];
        moods[31] = 99;
        Tape chain = chain(moods);
        for (int step = 0; step < 32; step++) {
            due(chain, call("way", step, 0), step);
            due(chain, call("way", step, 1), 0);
            due(chain, call("way", step, 2), step == 31 ? NONE : 0);
        }
        due(chain, "way(32, 0)", NONE);
        Tape third = Tape.of("addPage(0, 1, 0)", "addPage(1, 30, 1)").typing("0>0;0>1+b;0>1").then("addChoices()");
        due(third, "way(0, 2)", 2);
        due(third, "way(1, 1)", 30);
        // By the second coming to the first page, with other flags.
        Tape again = Tape.of("addPage(0, 0, 0)", "addPage(0, 1, 0)", "addPage(1, 0, 1)")
            .typing("0>1;1>0;0>2+a").then("addChoices()");
        due(again, "way(2, 0)", 0);
        due(again, "way(2, 1)", 1);
        due(again, "way(2, 2)", 1);
        due(again, "way(3, 1)", 0);
    }

    private static void counts() {
        sentence("count: what is 0 to 11; the empty book.");
        for (int what = 0; what <= 11; what++) {
            due(Tape.NEW, call("count", what), what == 8 ? NONE : 0);
        }
        sentence("count: the full book.");
        Tape book = Tape.pages(32).then("setMood(30, 1)", "setMood(31, 1)");
        for (int i = 0; i < 96; i++) {
            book = i / 3 < 29 ? book.then(call("addChoice", i / 3, (i / 3 + i % 3) % 30, 0, 0)) : book;
        }
        book = book.then("addChoice(29, 29, 31, 0)", "begin(1)", "mark(1)").times(60, "type(59)");
        // 0 to 28 go on or stay, 29 is stuck for want of a flag, 30 and 31 are happy ends and dead.
        int[] stuck = {32, 88, 2, 29, 30, 30, 0, 0, NONE, 1, 4, 60};
        for (int what = 0; what <= 11; what++) {
            due(book, call("count", what), stuck[what]);
        }
        // 29 leads to all that is left: the happy end 30, and 31, which is made another end.
        Tape open = book.then("addChoice(29, 30, 0, 0)", "addChoice(29, 31, 0, 0)", "setMood(31, -1)");
        int[] free = {32, 90, 0, 29, 0, 32, 2, 1, 16, 1, 4, 60};
        for (int what = 0; what <= 11; what++) {
            due(open, call("count", what), free[what]);
        }
        sentence("count: ends that can be come to (pages), also with several places.");
        Tape twice = Tape.of("addPage(0, 0, 0)", "addPage(0, 1, 0)", "addPage(1, 0, 0)").typing("0>1;0>2;1>2")
            .then("addChoices()");
        due(twice, "page(2, 8)", 2);
        due(twice, "count(6)", 1);
        due(twice, "count(7)", 1);
        due(twice, "count(5)", 4);
        due(twice.then("setMood(2, 0)"), "count(6)", 1);
        due(Tape.pages(32), "count(6)", 1);
        due(Tape.pages(32), "count(7)", 0);
        due(Tape.pages(32).then("setMood(0, 1)", "setMood(31, 1)"), "count(6)", 1);
        due(Tape.pages(32).then("setMood(0, 1)", "setMood(31, 1)"), "count(7)", 1);
        due(ring().then("takeChoice(31, 0)"), "count(6)", 1);
        due(twice.then("setMood(2, 0)"), "count(7)", 0);
    }
}
