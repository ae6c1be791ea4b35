import java.util.ArrayDeque;
import java.util.ArrayList;
import java.util.LinkedHashMap;
import java.util.LinkedHashSet;
import java.util.List;
import java.util.Map;
import java.util.Random;
import java.util.Set;
import java.util.regex.Matcher;
import java.util.regex.Pattern;

/**
 * Random runs of calls, from fixed seeds, against a second writing of the document that is made
 * of objects and copies, and works everything out anew at each call.
 */
public final class ModelTest {
    private static final int UNKNOWN = -1;
    private static final int BAD = -2;
    private static final int FULL = -3;
    private static final int NOT = -4;
    private static final int NONE = -5;
    private static final int MOST_CALLS = 512;
    private static final int RUNS = 3000;

    // ---- the model

    private static final class Choice {
        Page to;
        final int need;
        final int bar;

        Choice(Page to, int need, int bar) {
            this.to = to;
            this.need = need;
            this.bar = bar;
        }

        boolean open(int flags) {
            return (flags & need) == need && (flags & bar) == 0;
        }
    }

    private static final class Page {
        int tenths;
        final int sets;
        final int takes;
        final List<Choice> choices = new ArrayList<>();

        Page(int tenths, int sets, int takes) {
            this.tenths = tenths;
            this.sets = sets;
            this.takes = takes;
        }

        float mood() {
            return (float) tenths / 10.0f;
        }

        boolean happy() {
            return choices.isEmpty() && mood() > 0.0f;
        }

        Place comeTo(int flags) {
            int left = 0;
            for (int flag = 0; flag < 5; flag++) {
                boolean there = (flags >> flag & 1) == 1;
                if ((takes >> flag & 1) == 1) {
                    there = false;
                }
                if ((sets >> flag & 1) == 1) {
                    there = true;
                }
                left += there ? 1 << flag : 0;
            }
            return new Place(this, left);
        }
    }

    // A record's equality is by the very page and the flags: a Page has no equality of its own.
    private record Place(Page page, int flags) {
        List<Place> next() {
            List<Place> all = new ArrayList<>();
            for (Choice c : page.choices) {
                if (c.open(flags)) {
                    all.add(c.to.comeTo(flags));
                }
            }
            return all;
        }
    }

    private record Way(List<Place> places, List<Integer> choices) { }

    private static final class Book {
        final List<Page> pages = new ArrayList<>();
        final Place[] readers = new Place[2];
        final int[] taken = new int[2];
        Place bookmark;

        Book copy() {
            Book b = new Book();
            Map<Page, Page> twins = new LinkedHashMap<>();
            for (Page p : pages) {
                Page twin = new Page(p.tenths, p.sets, p.takes);
                twins.put(p, twin);
                b.pages.add(twin);
            }
            for (Page p : pages) {
                for (Choice c : p.choices) {
                    twins.get(p).choices.add(new Choice(twins.get(c.to), c.need, c.bar));
                }
            }
            for (int r = 0; r < 2; r++) {
                b.readers[r] = twin(readers[r], twins);
                b.taken[r] = taken[r];
            }
            b.bookmark = twin(bookmark, twins);
            return b;
        }

        private static Place twin(Place place, Map<Page, Page> twins) {
            return place == null ? null : new Place(twins.get(place.page()), place.flags());
        }

        Page page(int number) {
            return number >= 0 && number < pages.size() ? pages.get(number) : null;
        }

        /** The places that can be come to, each with the fewest choices to it. */
        Map<Place, Integer> live() {
            Map<Place, Integer> live = new LinkedHashMap<>();
            ArrayDeque<Place> queue = new ArrayDeque<>();
            if (!pages.isEmpty()) {
                Place first = pages.get(0).comeTo(0);
                live.put(first, 0);
                queue.add(first);
            }
            while (!queue.isEmpty()) {
                Place place = queue.remove();
                for (Place next : place.next()) {
                    if (!live.containsKey(next)) {
                        live.put(next, live.get(place) + 1);
                        queue.add(next);
                    }
                }
            }
            return live;
        }

        /** What can be come to from a place by one choice or more. */
        static Set<Place> behind(Place place) {
            Set<Place> seen = new LinkedHashSet<>(place.next());
            ArrayDeque<Place> queue = new ArrayDeque<>(seen);
            while (!queue.isEmpty()) {
                for (Place next : queue.remove().next()) {
                    if (seen.add(next)) {
                        queue.add(next);
                    }
                }
            }
            return seen;
        }

        static boolean stuck(Place place) {
            if (place.page().choices.isEmpty()) {
                return false;
            }
            for (Place p : behind(place)) {
                if (p.page().choices.isEmpty()) {
                    return false;
                }
            }
            return true;
        }

        boolean again(Page page) {
            for (Place place : live().keySet()) {
                if (place.page() == page) {
                    for (Place p : behind(place)) {
                        if (p.page() == page) {
                            return true;
                        }
                    }
                }
            }
            return false;
        }

        /** Steps back from every happy end give how far each place is; then the lowest choice that comes nearer. */
        Way way() {
            Map<Place, Integer> live = live();
            Map<Place, Integer> left = new LinkedHashMap<>();
            for (Place p : live.keySet()) {
                if (p.page().happy()) {
                    left.put(p, 0);
                }
            }
            for (int far = 1; far <= live.size(); far++) {
                for (Place p : live.keySet()) {
                    if (!left.containsKey(p)) {
                        for (Place next : p.next()) {
                            if (left.getOrDefault(next, MOST_CALLS * MOST_CALLS) == far - 1) {
                                left.put(p, far);
                            }
                        }
                    }
                }
            }
            if (live.isEmpty() || !left.containsKey(pages.get(0).comeTo(0))) {
                return null;
            }
            Way way = new Way(new ArrayList<>(), new ArrayList<>());
            Place at = pages.get(0).comeTo(0);
            way.places().add(at);
            while (left.get(at) > 0) {
                for (int c = 0; c < at.page().choices.size(); c++) {
                    Choice choice = at.page().choices.get(c);
                    Place next = choice.to.comeTo(at.flags());
                    if (choice.open(at.flags()) && left.containsKey(next) && left.get(next) == left.get(at) - 1) {
                        way.places().add(next);
                        way.choices().add(c);
                        at = next;
                        break;
                    }
                }
            }
            return way;
        }

        int choicesTo(Page page) {
            int sum = 0;
            for (Page p : pages) {
                for (Choice c : p.choices) {
                    sum += c.to == page ? 1 : 0;
                }
            }
            return sum;
        }
    }

    private static final class Model {
        private static final String NUMBER = "(?:[0-9]|[12][0-9]|3[01])";
        private static final String FLAGS = flags();
        private static final String CHOICE = NUMBER + ">" + NUMBER + "(?:\\+" + FLAGS + ")?(?:-" + FLAGS + ")?";
        private static final Pattern TEXT = Pattern.compile(CHOICE + "(?:;" + CHOICE + ")*");

        Book now = new Book();
        Book snapshot;
        final List<Book> history = new ArrayList<>();
        String text = "";

        private static String flags() {
            StringBuilder all = new StringBuilder("(?:");
            for (int set = 1; set < 32; set++) {
                all.append(set == 1 ? "" : "|");
                for (int flag = 0; flag < 5; flag++) {
                    if ((set >> flag & 1) == 1) {
                        all.append((char) ('a' + flag));
                    }
                }
            }
            return all.append(")").toString();
        }

        private void record() {
            history.add(now.copy());
            if (history.size() > 4) {
                history.remove(0);
            }
        }

        static boolean mood(int tenths) {
            return Math.abs((long) tenths) <= 99;
        }

        static boolean flagSet(int flags) {
            return (flags & 31) == flags;
        }

        static boolean isReader(int reader) {
            return reader == 0 || reader == 1;
        }

        int addPage(int tenths, int sets, int takes) {
            if (!mood(tenths) || !flagSet(sets) || !flagSet(takes)) {
                return BAD;
            }
            if (now.pages.size() == 32) {
                return FULL;
            }
            record();
            now.pages.add(new Page(tenths, sets, takes));
            return now.pages.size() - 1;
        }

        int setMood(int page, int tenths) {
            Page p = now.page(page);
            if (p == null) {
                return UNKNOWN;
            }
            if (!mood(tenths)) {
                return BAD;
            }
            if (p.tenths == tenths) {
                return NONE;
            }
            record();
            p.tenths = tenths;
            return p.choices.size();
        }

        int addChoice(int page, int to, int need, int bar) {
            Book before = now.copy();
            int answer = add(page, to, need, bar);
            if (answer >= 0) {
                Book after = now;
                now = before;
                record();
                now = after;
            }
            return answer;
        }

        private int add(int page, int to, int need, int bar) {
            Page p = now.page(page);
            Page target = now.page(to);
            if (p == null || target == null) {
                return UNKNOWN;
            }
            if (!flagSet(need) || !flagSet(bar)) {
                return BAD;
            }
            if (p.choices.size() == 3) {
                return FULL;
            }
            p.choices.add(new Choice(target, need, bar));
            return p.choices.size() - 1;
        }

        int fault() {
            for (int i = 1; i <= text.length(); i++) {
                Matcher m = TEXT.matcher(text.substring(0, i));
                if (!m.matches() && !m.hitEnd()) {
                    return i - 1;
                }
            }
            return TEXT.matcher(text).matches() ? -1 : text.length();
        }

        int addChoices() {
            int fault = fault();
            if (fault >= 0) {
                return -100 - fault;
            }
            Book before = now.copy();
            String[] all = text.split(";");
            for (String one : all) {
                String[] parts = one.split("[>+-]");
                int plus = one.indexOf('+');
                int minus = one.indexOf('-');
                int need = plus < 0 ? 0 : bits(one.substring(plus, minus < 0 ? one.length() : minus));
                int bar = minus < 0 ? 0 : bits(one.substring(minus));
                int answer = add(Integer.parseInt(parts[0]), Integer.parseInt(parts[1]), need, bar);
                if (answer < 0) {
                    now = before;
                    return answer;
                }
            }
            Book after = now;
            now = before;
            record();
            now = after;
            return all.length;
        }

        private static int bits(String letters) {
            int set = 0;
            for (char c = 'a'; c <= 'e'; c++) {
                set += letters.indexOf(c) >= 0 ? 1 << (c - 'a') : 0;
            }
            return set;
        }

        private Choice choiceOf(int page, int choice) {
            Page p = now.page(page);
            return p == null || choice < 0 || choice >= p.choices.size() ? null : p.choices.get(choice);
        }

        int takeChoice(int page, int choice) {
            Choice c = choiceOf(page, choice);
            if (c == null) {
                return UNKNOWN;
            }
            record();
            now.page(page).choices.remove(c);
            return now.pages.indexOf(c.to);
        }

        int exchange(int one, int other) {
            Page p = now.page(one);
            Page q = now.page(other);
            if (p == null || q == null) {
                return UNKNOWN;
            }
            if (p == q) {
                return NONE;
            }
            record();
            now.pages.set(one, q);
            now.pages.set(other, p);
            return now.choicesTo(p) + now.choicesTo(q);
        }

        int begin(int reader) {
            if (!isReader(reader)) {
                return UNKNOWN;
            }
            if (now.pages.isEmpty()) {
                return NOT;
            }
            record();
            now.readers[reader] = now.pages.get(0).comeTo(0);
            now.taken[reader] = 0;
            return now.readers[reader].flags();
        }

        int why(int reader, int choice) {
            if (!isReader(reader)) {
                return UNKNOWN;
            }
            if (choice < 0 || choice > 2) {
                return BAD;
            }
            Place place = now.readers[reader];
            if (place == null) {
                return 1;
            }
            if (choice >= place.page().choices.size()) {
                return 2;
            }
            Choice c = place.page().choices.get(choice);
            if ((place.flags() & c.need) != c.need) {
                return 3;
            }
            return (place.flags() & c.bar) != 0 ? 4 : 0;
        }

        int choose(int reader, int choice) {
            int reason = why(reader, choice);
            if (reason < 0) {
                return reason;
            }
            if (reason > 0) {
                return NOT;
            }
            record();
            Place place = now.readers[reader];
            now.readers[reader] = place.page().choices.get(choice).to.comeTo(place.flags());
            now.taken[reader]++;
            return now.pages.indexOf(now.readers[reader].page());
        }

        int mark(int reader) {
            if (!isReader(reader)) {
                return UNKNOWN;
            }
            if (now.readers[reader] == null) {
                return NOT;
            }
            if (now.readers[reader].equals(now.bookmark)) {
                return NONE;
            }
            record();
            now.bookmark = now.readers[reader];
            return now.pages.indexOf(now.bookmark.page());
        }

        int goToMark(int reader) {
            if (!isReader(reader)) {
                return UNKNOWN;
            }
            if (now.bookmark == null) {
                return NOT;
            }
            if (now.bookmark.equals(now.readers[reader])) {
                return NONE;
            }
            record();
            now.readers[reader] = now.bookmark;
            now.taken[reader] = 0;
            return now.pages.indexOf(now.bookmark.page());
        }

        int type(char character) {
            if (text.length() == 60) {
                return FULL;
            }
            text += character;
            return text.length();
        }

        int clearText() {
            int length = text.length();
            text = "";
            return length;
        }

        int undo() {
            if (history.isEmpty()) {
                return NONE;
            }
            now = history.remove(history.size() - 1);
            return history.size();
        }

        int keep() {
            snapshot = now.copy();
            return now.pages.size();
        }

        int restore() {
            if (snapshot == null) {
                return NONE;
            }
            record();
            now = snapshot.copy();
            return now.pages.size();
        }

        int page(int page, int what) {
            Page p = now.page(page);
            if (p == null) {
                return UNKNOWN;
            }
            if (what < 0 || what > 10) {
                return BAD;
            }
            if (what <= 4) {
                int kind = p.choices.isEmpty() ? p.happy() ? 1 : 2 : 0;
                return new int[] {p.choices.size(), p.sets, p.takes, Float.floatToIntBits(p.mood()), kind}[what];
            }
            int places = 0;
            int nearest = NONE;
            int stuck = 0;
            for (Map.Entry<Place, Integer> e : now.live().entrySet()) {
                if (e.getKey().page() == p) {
                    places++;
                    nearest = nearest == NONE ? e.getValue() : Math.min(nearest, e.getValue());
                    stuck = Book.stuck(e.getKey()) ? 1 : stuck;
                }
            }
            int again = what == 6 && now.again(p) ? 1 : 0;
            return new int[] {places == 0 ? 1 : 0, again, stuck, places, nearest, now.choicesTo(p)}[what - 5];
        }

        int choice(int page, int choice, int what) {
            Choice c = choiceOf(page, choice);
            if (c == null) {
                return UNKNOWN;
            }
            switch (what) {
                case 0: return now.pages.indexOf(c.to);
                case 1: return c.need;
                case 2: return c.bar;
                case 3:
                    for (Place place : now.live().keySet()) {
                        if (place.page() == now.page(page) && c.open(place.flags())) {
                            return 1;
                        }
                    }
                    return 0;
                default: return BAD;
            }
        }

        int reader(int reader, int what) {
            if (!isReader(reader)) {
                return UNKNOWN;
            }
            if (what < 0 || what > 3) {
                return BAD;
            }
            Place place = now.readers[reader];
            if (place == null) {
                return NONE;
            }
            int open = 0;
            for (int c = 0; c < place.page().choices.size(); c++) {
                open += place.page().choices.get(c).open(place.flags()) ? 1 << c : 0;
            }
            return new int[] {now.pages.indexOf(place.page()), place.flags(), open, now.taken[reader]}[what];
        }

        int way(int step, int what) {
            if (step < 0 || what < 0 || what > 2) {
                return BAD;
            }
            Way way = now.way();
            if (way == null || step >= way.places().size()) {
                return NONE;
            }
            Place place = way.places().get(step);
            int on = step < way.choices().size() ? way.choices().get(step) : NONE;
            return new int[] {now.pages.indexOf(place.page()), place.flags(), on}[what];
        }

        int wayMood() {
            Way way = now.way();
            if (way == null) {
                return NONE;
            }
            float sum = 0.0f;
            for (Place place : way.places()) {
                sum += place.page().mood();
            }
            return Float.floatToIntBits(sum);
        }

        int count(int what) {
            int sum = 0;
            switch (what) {
                case 0: return now.pages.size();
                case 1:
                    for (Page p : now.pages) {
                        sum += p.choices.size();
                    }
                    return sum;
                case 2: return now.pages.size() - livePages().size();
                case 3:
                    for (Page p : now.pages) {
                        sum += now.again(p) ? 1 : 0;
                    }
                    return sum;
                case 4:
                    for (Place p : now.live().keySet()) {
                        sum += Book.stuck(p) ? 1 : 0;
                    }
                    return sum;
                case 5: return now.live().size();
                case 6:
                    for (Page p : livePages()) {
                        sum += p.choices.isEmpty() ? 1 : 0;
                    }
                    return sum;
                case 7:
                    for (Page p : livePages()) {
                        sum += p.happy() ? 1 : 0;
                    }
                    return sum;
                case 8:
                    Way way = now.way();
                    return way == null ? NONE : way.choices().size();
                case 9: return now.bookmark == null ? 0 : 1;
                case 10: return history.size();
                case 11: return text.length();
                default: return BAD;
            }
        }

        private Set<Page> livePages() {
            Set<Page> live = new LinkedHashSet<>();
            for (Place place : now.live().keySet()) {
                live.add(place.page());
            }
            return live;
        }
    }

    // ---- the runs

    private static final class Run {
        final long seed;
        final Random random;
        final PathBook real = new PathBook();
        final Model model = new Model();
        final int mostPages;
        final int flagMask;
        final int odd;
        int calls = 0;
        int wrong = 0;

        Run(long seed) {
            this.seed = seed;
            random = new Random(seed);
            mostPages = new int[] {2, 4, 8, 16, 33}[random.nextInt(5)];
            flagMask = new int[] {1, 3, 7, 31}[random.nextInt(4)];
            odd = new int[] {0, 5, 30}[random.nextInt(3)];
        }

        private void due(String call, int got, int want) {
            calls++;
            if (got != want) {
                wrong++;
                if (wrong <= 3) {
                    System.out.println("run " + seed + ", call " + calls + ": " + call + " answered " + got + ", due is " + want);
                }
            }
        }

        private int stray(int usual) {
            if (random.nextInt(100) >= odd) {
                return usual;
            }
            int[] strays = {-1, -2, 2, 3, 4, 5, 11, 12, 31, 32, 33, 99, -99, 100, -100,
                Integer.MIN_VALUE, Integer.MAX_VALUE, random.nextInt()};
            return strays[random.nextInt(strays.length)];
        }

        private int somePage() {
            return stray(random.nextInt(Math.max(1, model.now.pages.size())));
        }

        private int someFlags() {
            int flags = random.nextInt(32) & flagMask;
            return stray(random.nextInt(3) == 0 ? flags : flags & random.nextInt(32) & random.nextInt(32));
        }

        private int someReader() {
            return stray(random.nextInt(2));
        }

        private int someTenths() {
            return stray(random.nextInt(3) == 0 ? random.nextInt(199) - 99 : random.nextInt(5) - 2);
        }

        void go() {
            int acts = 20 + random.nextInt(300);
            while (calls < acts) {
                act();
                if (random.nextInt(4) == 0) {
                    ask(random.nextInt(10));
                }
            }
            while (calls < MOST_CALLS) {
                ask(random.nextInt(10));
            }
        }

        private void act() {
            int kind = random.nextInt(100);
            if (kind < 12 || model.now.pages.size() < 2 && kind < 60) {
                if (model.now.pages.size() < mostPages || random.nextInt(20) == 0) {
                    int t = someTenths();
                    int s = someFlags();
                    int k = someFlags();
                    due("addPage(" + t + ", " + s + ", " + k + ")", real.addPage(t, s, k), model.addPage(t, s, k));
                }
            } else if (kind < 16) {
                int p = somePage();
                int t = someTenths();
                due("setMood(" + p + ", " + t + ")", real.setMood(p, t), model.setMood(p, t));
            } else if (kind < 40) {
                int p = somePage();
                int t = somePage();
                int n = someFlags();
                int b = someFlags();
                due("addChoice(" + p + ", " + t + ", " + n + ", " + b + ")", real.addChoice(p, t, n, b), model.addChoice(p, t, n, b));
            } else if (kind < 46) {
                int p = somePage();
                int c = stray(random.nextInt(3));
                due("takeChoice(" + p + ", " + c + ")", real.takeChoice(p, c), model.takeChoice(p, c));
            } else if (kind < 50) {
                int p = somePage();
                int q = somePage();
                due("exchange(" + p + ", " + q + ")", real.exchange(p, q), model.exchange(p, q));
            } else if (kind < 54) {
                int r = someReader();
                due("begin(" + r + ")", real.begin(r), model.begin(r));
            } else if (kind < 72) {
                int r = someReader();
                int c = stray(random.nextInt(3));
                due("choose(" + r + ", " + c + ")", real.choose(r, c), model.choose(r, c));
            } else if (kind < 77) {
                int r = someReader();
                due("mark(" + r + ")", real.mark(r), model.mark(r));
            } else if (kind < 82) {
                int r = someReader();
                due("goToMark(" + r + ")", real.goToMark(r), model.goToMark(r));
            } else if (kind < 87) {
                write();
            } else if (kind < 94) {
                due("undo()", real.undo(), model.undo());
            } else if (kind < 97) {
                due("keep()", real.keep(), model.keep());
            } else {
                due("restore()", real.restore(), model.restore());
            }
        }

        private void write() {
            if (random.nextInt(5) > 0) {
                due("clearText()", real.clearText(), model.clearText());
            }
            StringBuilder text = new StringBuilder();
            int number = 1 + random.nextInt(random.nextInt(8) == 0 ? 18 : 3);
            for (int i = 0; i < number; i++) {
                text.append(i == 0 ? "" : ";").append(pageForText()).append('>').append(pageForText());
                text.append(flagsForText('+')).append(flagsForText('-'));
            }
            if (random.nextInt(3) == 0) {
                String signs = "0123456789>+-;abcdef A\u00e9\u0661\uffff";
                int at = random.nextInt(text.length());
                char sign = signs.charAt(random.nextInt(signs.length()));
                switch (random.nextInt(4)) {
                    case 0: text.setCharAt(at, sign); break;
                    case 1: text.insert(at, sign); break;
                    case 2: text.deleteCharAt(at); break;
                    default: text.setLength(at); break;
                }
            }
            for (int i = 0; i < text.length(); i++) {
                char c = text.charAt(i);
                due("type((char) " + (int) c + ")", real.type(c), model.type(c));
            }
            due("addChoices() of " + model.text, real.addChoices(), model.addChoices());
        }

        private int pageForText() {
            int usual = random.nextInt(Math.max(1, model.now.pages.size()));
            return random.nextInt(100) < odd ? random.nextInt(40) : usual;
        }

        private String flagsForText(char lead) {
            if (random.nextInt(3) > 0) {
                return "";
            }
            StringBuilder letters = new StringBuilder().append(lead);
            for (int flag = 0; flag < 5; flag++) {
                if ((flagMask >> flag & 1) == 1 && random.nextInt(3) == 0) {
                    letters.append((char) ('a' + flag));
                }
            }
            return letters.length() > 1 || random.nextInt(100) < odd ? letters.toString() : "";
        }

        private void ask(int kind) {
            if (kind < 3) {
                int p = somePage();
                int w = stray(random.nextInt(11));
                due("page(" + p + ", " + w + ")", real.page(p, w), model.page(p, w));
            } else if (kind < 4) {
                int p = somePage();
                int c = stray(random.nextInt(3));
                int w = stray(random.nextInt(4));
                due("choice(" + p + ", " + c + ", " + w + ")", real.choice(p, c, w), model.choice(p, c, w));
            } else if (kind < 5) {
                int r = someReader();
                int w = stray(random.nextInt(4));
                due("reader(" + r + ", " + w + ")", real.reader(r, w), model.reader(r, w));
            } else if (kind < 6) {
                int r = someReader();
                int c = stray(random.nextInt(3));
                due("why(" + r + ", " + c + ")", real.why(r, c), model.why(r, c));
            } else if (kind < 7) {
                int s = stray(random.nextInt(5));
                int w = stray(random.nextInt(3));
                due("way(" + s + ", " + w + ")", real.way(s, w), model.way(s, w));
            } else if (kind < 8) {
                due("wayMood()", real.wayMood(), model.wayMood());
            } else {
                int w = stray(random.nextInt(12));
                due("count(" + w + ")", real.count(w), model.count(w));
            }
        }
    }

    public static void main(String[] args) {
        int wrong = 0;
        for (long seed = 1; seed <= RUNS; seed++) {
            Run run = new Run(seed);
            run.go();
            wrong += run.wrong;
            if (run.wrong > 3) {
                System.out.println("run " + seed + ": " + run.wrong + " answers are not as due");
            }
        }
        System.out.println("ModelTest: " + RUNS + " runs, " + wrong + " answers are not as due");
        if (wrong != 0) {
            System.exit(1);
        }
    }
}
