/**
 * A binder of choose-a-path books: pages, choices, flags, two readers, a
 * bookmark, a text of choices, a history and a snapshot.
 */
public final class PathBook {
    public static final int UNKNOWN = -1;
    public static final int BAD_VALUE = -2;
    public static final int FULL = -3;
    public static final int NOT_POSSIBLE = -4;
    public static final int NONE = -5;

    private static final int FINE = 0;
    private static final int FAULT_BASE = -100;

    private static final int MOST_PAGES = 32;
    private static final int MOST_CHOICES = 3;
    private static final int MOST_TENTHS = 99;
    private static final int MOST_SIGNS = 60;
    private static final int MOST_STATES = 4;
    private static final int READERS = 2;
    private static final int FLAGS = 5;
    private static final int FLAG_SETS = 32;
    private static final int PLACES = MOST_PAGES * FLAG_SETS;
    private static final int NOWHERE = -1;

    // The text holds 15 whole choices; one more may be begun behind the last ";".
    private static final int MOST_READ = 16;

    private final State now;
    private final State draft;
    private final State snapshot;
    private boolean hasSnapshot;
    private final History history;
    private final Text text;
    private final Survey survey;

    public PathBook() {
        now = new State();
        draft = new State();
        snapshot = new State();
        hasSnapshot = false;
        history = new History();
        text = new Text();
        survey = new Survey();
    }

    // ---- pages, choices

    public int addPage(int tenths, int sets, int takes) {
        if (!isMood(tenths) || !isFlagSet(sets) || !isFlagSet(takes)) {
            return BAD_VALUE;
        }
        if (now.pages >= MOST_PAGES) {
            return FULL;
        }
        record();
        return now.bindPage(tenths, sets, takes);
    }

    public int setMood(int page, int tenths) {
        if (!now.hasPage(page)) {
            return UNKNOWN;
        }
        if (!isMood(tenths)) {
            return BAD_VALUE;
        }
        if (now.tenths.at(page) == tenths) {
            return NONE;
        }
        record();
        now.tenths.put(page, tenths);
        return now.sizes.at(page);
    }

    public int addChoice(int page, int to, int need, int bar) {
        int error = now.errorOfChoice(page, to, need, bar);
        if (error != FINE) {
            return error;
        }
        record();
        return now.appendChoice(page, to, need, bar);
    }

    public int addChoices() {
        if (!text.parse()) {
            return FAULT_BASE - text.at;
        }
        // A draft, since the history must not lose its oldest state to choices that fail.
        draft.copyFrom(now);
        for (int i = 0; i < text.choices && i < MOST_READ; i++) {
            int page = text.from.at(i);
            int to = text.to.at(i);
            int need = text.needs.at(i);
            int bar = text.bars.at(i);
            int error = draft.errorOfChoice(page, to, need, bar);
            if (error != FINE) {
                return error;
            }
            draft.appendChoice(page, to, need, bar);
        }
        record();
        now.copyFrom(draft);
        return text.choices;
    }

    public int takeChoice(int page, int choice) {
        if (!now.hasChoice(page, choice)) {
            return UNKNOWN;
        }
        record();
        return now.removeChoice(page, choice);
    }

    public int exchange(int one, int other) {
        if (!now.hasPage(one) || !now.hasPage(other)) {
            return UNKNOWN;
        }
        if (one == other) {
            return NONE;
        }
        record();
        now.swapPages(one, other);
        return now.choicesTo(one) + now.choicesTo(other);
    }

    // ---- readers

    public int begin(int reader) {
        if (!isReader(reader)) {
            return UNKNOWN;
        }
        if (now.pages == 0) {
            return NOT_POSSIBLE;
        }
        record();
        int first = now.firstPlace();
        now.putReader(reader, first, 0);
        return flagsAt(first);
    }

    public int choose(int reader, int choice) {
        if (!isReader(reader)) {
            return UNKNOWN;
        }
        if (!isChoiceNumber(choice)) {
            return BAD_VALUE;
        }
        if (now.reasonAgainst(reader, choice) != 0) {
            return NOT_POSSIBLE;
        }
        record();
        int next = now.placeBehind(now.places.at(reader), choice);
        now.putReader(reader, next, now.taken.at(reader) + 1);
        return pageAt(next);
    }

    public int mark(int reader) {
        if (!isReader(reader)) {
            return UNKNOWN;
        }
        int place = now.places.at(reader);
        if (place == NOWHERE) {
            return NOT_POSSIBLE;
        }
        if (now.bookmark == place) {
            return NONE;
        }
        record();
        now.bookmark = place;
        return pageAt(place);
    }

    public int goToMark(int reader) {
        if (!isReader(reader)) {
            return UNKNOWN;
        }
        if (now.bookmark == NOWHERE) {
            return NOT_POSSIBLE;
        }
        if (now.places.at(reader) == now.bookmark) {
            return NONE;
        }
        record();
        now.putReader(reader, now.bookmark, 0);
        return pageAt(now.bookmark);
    }

    // ---- texts

    public int type(char character) {
        if (text.length >= MOST_SIGNS) {
            return FULL;
        }
        return text.append(character);
    }

    public int clearText() {
        int length = text.length;
        text.length = 0;
        return length;
    }

    // ---- history

    public int undo() {
        if (history.size == 0) {
            return NONE;
        }
        history.pop(now);
        survey.known = false;
        return history.size;
    }

    public int keep() {
        snapshot.copyFrom(now);
        hasSnapshot = true;
        return now.pages;
    }

    public int restore() {
        if (!hasSnapshot) {
            return NONE;
        }
        record();
        now.copyFrom(snapshot);
        return now.pages;
    }

    // ---- what is told

    public int page(int page, int what) {
        if (!now.hasPage(page)) {
            return UNKNOWN;
        }
        switch (what) {
            case 0: return now.sizes.at(page);
            case 1: return now.sets.at(page);
            case 2: return now.takes.at(page);
            case 3: return bitsOf(now.moodOf(page));
            case 4: return now.kindOf(page);
            case 5: return oneIf(surveyed().isDead(page));
            case 6: return oneIf(surveyed().comesAgain(page));
            case 7: return oneIf(surveyed().stuckPlacesWith(page) > 0);
            case 8: return surveyed().placesWith(page);
            case 9: return surveyed().fewestChoicesTo(page);
            case 10: return now.choicesTo(page);
            default: return BAD_VALUE;
        }
    }

    public int choice(int page, int choice, int what) {
        if (!now.hasChoice(page, choice)) {
            return UNKNOWN;
        }
        int slot = slotOf(page, choice);
        switch (what) {
            case 0: return now.to.at(slot);
            case 1: return now.needs.at(slot);
            case 2: return now.bars.at(slot);
            case 3: return oneIf(surveyed().isEverOpen(now, page, choice));
            default: return BAD_VALUE;
        }
    }

    public int reader(int reader, int what) {
        if (!isReader(reader)) {
            return UNKNOWN;
        }
        if (what < 0 || what > 3) {
            return BAD_VALUE;
        }
        int place = now.places.at(reader);
        if (place == NOWHERE) {
            return NONE;
        }
        switch (what) {
            case 0: return pageAt(place);
            case 1: return flagsAt(place);
            case 2: return now.openChoices(place);
            default: return now.taken.at(reader);
        }
    }

    public int why(int reader, int choice) {
        if (!isReader(reader)) {
            return UNKNOWN;
        }
        if (!isChoiceNumber(choice)) {
            return BAD_VALUE;
        }
        return now.reasonAgainst(reader, choice);
    }

    public int way(int step, int what) {
        if (step < 0 || what < 0 || what > 2) {
            return BAD_VALUE;
        }
        Survey told = surveyed();
        if (step > told.wayLength) {
            return NONE;
        }
        switch (what) {
            case 0: return pageAt(told.way.at(step));
            case 1: return flagsAt(told.way.at(step));
            default: return told.choiceOnWay(step);
        }
    }

    public int wayMood() {
        Survey told = surveyed();
        if (told.wayLength < 0) {
            return NONE;
        }
        float sum = 0.0f;
        for (int step = 0; step <= told.wayLength && step < PLACES; step++) {
            sum = sum + now.moodOf(pageAt(told.way.at(step)));
        }
        return bitsOf(sum);
    }

    public int count(int what) {
        switch (what) {
            case 0: return now.pages;
            case 1: return now.allChoices();
            case 2: return surveyed().deadPages();
            case 3: return surveyed().pagesThatComeAgain();
            case 4: return surveyed().stuckPlaces();
            case 5: return surveyed().found;
            case 6: return surveyed().livePagesOf(surveyed().ends);
            case 7: return surveyed().livePagesOf(surveyed().happyEnds);
            case 8: return surveyed().wayLength < 0 ? NONE : surveyed().wayLength;
            case 9: return oneIf(now.bookmark != NOWHERE);
            case 10: return history.size;
            case 11: return text.length;
            default: return BAD_VALUE;
        }
    }

    // ---- helpers

    /** Every act comes through here ahead of its change, so no survey outlives what it tells of. */
    private void record() {
        history.push(now);
        survey.known = false;
    }

    private Survey surveyed() {
        if (!survey.known) {
            survey.make(now);
        }
        return survey;
    }

    private static boolean isMood(int tenths) {
        return tenths >= -MOST_TENTHS && tenths <= MOST_TENTHS;
    }

    private static boolean isFlagSet(int flags) {
        return flags >= 0 && flags < FLAG_SETS;
    }

    private static boolean isReader(int reader) {
        return reader >= 0 && reader < READERS;
    }

    private static boolean isChoiceNumber(int choice) {
        return choice >= 0 && choice < MOST_CHOICES;
    }

    private static int oneIf(boolean holds) {
        return holds ? 1 : 0;
    }

    private static int slotOf(int page, int choice) {
        return page * MOST_CHOICES + choice;
    }

    private static int placeOf(int page, int flags) {
        return page * FLAG_SETS + flags;
    }

    private static int pageAt(int place) {
        return place >> FLAGS;
    }

    private static int flagsAt(int place) {
        return place & (FLAG_SETS - 1);
    }

    /**
     * What Float.floatToIntBits would tell; the language that the program keeps to has no Float.
     * No mood, and no sum of the moods of 1024 places, comes near to 2^24 or to 2^-126.
     */
    private static int bitsOf(float value) {
        if (value == 0.0f) {
            return 0;
        }
        int sign = value < 0.0f ? 1 << 31 : 0;
        float part = value < 0.0f ? -value : value;
        int exponent = 150;
        for (int i = 0; i < 150 && part < 8388608.0f; i++) {
            part = part * 2.0f;
            exponent--;
        }
        return sign | exponent << 23 | ((int) part - 8388608);
    }

    /** A row of numbers that may be asked at any index: outside of it there are zeros that stay. */
    private static final class Row {
        private final int[] cells;

        Row(int size) {
            cells = new int[size < 0 ? 0 : size];
        }

        int at(int index) {
            return index >= 0 && index < cells.length ? cells[index] : 0;
        }

        void put(int index, int value) {
            if (index >= 0 && index < cells.length) {
                cells[index] = value;
            }
        }

        void fill(int value) {
            for (int i = 0; i < cells.length; i++) {
                cells[i] = value;
            }
        }

        void swap(int one, int other) {
            int held = at(one);
            put(one, at(other));
            put(other, held);
        }

        void copyFrom(Row source) {
            for (int i = 0; i < cells.length; i++) {
                cells[i] = source.at(i);
            }
        }
    }

    /** All that undo() and restore() bring back: pages, choices, readers and the bookmark. */
    private static final class State {
        private int pages;
        private final Row tenths;
        private final Row sets;
        private final Row takes;
        private final Row sizes;
        private final Row to;
        private final Row needs;
        private final Row bars;
        private final Row places;
        private final Row taken;
        private int bookmark;

        State() {
            pages = 0;
            tenths = new Row(MOST_PAGES);
            sets = new Row(MOST_PAGES);
            takes = new Row(MOST_PAGES);
            sizes = new Row(MOST_PAGES);
            to = new Row(MOST_PAGES * MOST_CHOICES);
            needs = new Row(MOST_PAGES * MOST_CHOICES);
            bars = new Row(MOST_PAGES * MOST_CHOICES);
            places = new Row(READERS);
            places.fill(NOWHERE);
            taken = new Row(READERS);
            bookmark = NOWHERE;
        }

        void copyFrom(State source) {
            pages = source.pages;
            tenths.copyFrom(source.tenths);
            sets.copyFrom(source.sets);
            takes.copyFrom(source.takes);
            sizes.copyFrom(source.sizes);
            to.copyFrom(source.to);
            needs.copyFrom(source.needs);
            bars.copyFrom(source.bars);
            places.copyFrom(source.places);
            taken.copyFrom(source.taken);
            bookmark = source.bookmark;
        }

        boolean hasPage(int page) {
            return page >= 0 && page < pages;
        }

        boolean hasChoice(int page, int choice) {
            return hasPage(page) && choice >= 0 && choice < sizes.at(page);
        }

        int bindPage(int mood, int set, int take) {
            int page = pages;
            tenths.put(page, mood);
            sets.put(page, set);
            takes.put(page, take);
            sizes.put(page, 0);
            pages = page + 1;
            return page;
        }

        int errorOfChoice(int page, int target, int need, int bar) {
            if (!hasPage(page) || !hasPage(target)) {
                return UNKNOWN;
            }
            if (!isFlagSet(need) || !isFlagSet(bar)) {
                return BAD_VALUE;
            }
            return sizes.at(page) >= MOST_CHOICES ? FULL : FINE;
        }

        int appendChoice(int page, int target, int need, int bar) {
            int choice = sizes.at(page);
            int slot = slotOf(page, choice);
            to.put(slot, target);
            needs.put(slot, need);
            bars.put(slot, bar);
            sizes.put(page, choice + 1);
            return choice;
        }

        int removeChoice(int page, int choice) {
            int target = to.at(slotOf(page, choice));
            int last = sizes.at(page) - 1;
            for (int i = choice; i < last && i < MOST_CHOICES; i++) {
                int slot = slotOf(page, i);
                to.put(slot, to.at(slot + 1));
                needs.put(slot, needs.at(slot + 1));
                bars.put(slot, bars.at(slot + 1));
            }
            sizes.put(page, last);
            return target;
        }

        void swapPages(int one, int other) {
            tenths.swap(one, other);
            sets.swap(one, other);
            takes.swap(one, other);
            sizes.swap(one, other);
            for (int choice = 0; choice < MOST_CHOICES; choice++) {
                int slot = slotOf(one, choice);
                int partner = slotOf(other, choice);
                to.swap(slot, partner);
                needs.swap(slot, partner);
                bars.swap(slot, partner);
            }
            for (int slot = 0; slot < MOST_PAGES * MOST_CHOICES; slot++) {
                to.put(slot, renumbered(to.at(slot), one, other));
            }
            for (int reader = 0; reader < READERS; reader++) {
                places.put(reader, moved(places.at(reader), one, other));
            }
            bookmark = moved(bookmark, one, other);
        }

        private static int renumbered(int page, int one, int other) {
            if (page == one) {
                return other;
            }
            return page == other ? one : page;
        }

        private static int moved(int place, int one, int other) {
            if (place == NOWHERE) {
                return NOWHERE;
            }
            return placeOf(renumbered(pageAt(place), one, other), flagsAt(place));
        }

        int allChoices() {
            int sum = 0;
            for (int page = 0; page < pages; page++) {
                sum = sum + sizes.at(page);
            }
            return sum;
        }

        int choicesTo(int target) {
            int sum = 0;
            for (int page = 0; page < pages; page++) {
                for (int choice = 0; choice < sizes.at(page) && choice < MOST_CHOICES; choice++) {
                    sum = sum + oneIf(to.at(slotOf(page, choice)) == target);
                }
            }
            return sum;
        }

        float moodOf(int page) {
            return (float) tenths.at(page) / 10.0f;
        }

        /** 0 no end, 1 a happy end, 2 another end. */
        int kindOf(int page) {
            if (sizes.at(page) > 0) {
                return 0;
            }
            return moodOf(page) > 0.0f ? 1 : 2;
        }

        int placeComingTo(int page, int flags) {
            return placeOf(page, flags & ~takes.at(page) | sets.at(page));
        }

        int firstPlace() {
            return placeComingTo(0, 0);
        }

        int placeBehind(int place, int choice) {
            return placeComingTo(to.at(slotOf(pageAt(place), choice)), flagsAt(place));
        }

        /** As why() tells it for a reader who has begun. */
        int reasonAt(int place, int choice) {
            int page = pageAt(place);
            int flags = flagsAt(place);
            if (choice < 0 || choice >= sizes.at(page)) {
                return 2;
            }
            int slot = slotOf(page, choice);
            if ((needs.at(slot) & ~flags) != 0) {
                return 3;
            }
            return (bars.at(slot) & flags) != 0 ? 4 : 0;
        }

        int reasonAgainst(int reader, int choice) {
            int place = places.at(reader);
            return place == NOWHERE ? 1 : reasonAt(place, choice);
        }

        int openChoices(int place) {
            int open = 0;
            for (int choice = 0; choice < MOST_CHOICES; choice++) {
                if (reasonAt(place, choice) == 0) {
                    open = open | 1 << choice;
                }
            }
            return open;
        }

        void putReader(int reader, int place, int choices) {
            places.put(reader, place);
            taken.put(reader, choices);
        }
    }

    /** The latest states, in a ring of rows that are used again. */
    private static final class History {
        private final State[] ring;
        private int next;
        private int size;

        History() {
            ring = new State[MOST_STATES];
            for (int i = 0; i < ring.length; i++) {
                ring[i] = new State();
            }
            next = 0;
            size = 0;
        }

        void push(State state) {
            State free = stateAt(next);
            if (free != null) {
                free.copyFrom(state);
            }
            next = next + 1 < MOST_STATES ? next + 1 : 0;
            size = size < MOST_STATES ? size + 1 : MOST_STATES;
        }

        void pop(State target) {
            next = next > 0 ? next - 1 : MOST_STATES - 1;
            size = size - 1;
            State latest = stateAt(next);
            if (latest != null) {
                target.copyFrom(latest);
            }
        }

        private State stateAt(int index) {
            return index >= 0 && index < ring.length ? ring[index] : null;
        }
    }

    /** The typed text, and the choices that the last parse() found in it. */
    private static final class Text {
        private static final int END = -1;

        private final Row signs;
        private int length;
        private int at;
        private boolean sound;
        private int choices;
        private final Row from;
        private final Row to;
        private final Row needs;
        private final Row bars;

        Text() {
            signs = new Row(MOST_SIGNS);
            length = 0;
            at = 0;
            sound = true;
            choices = 0;
            from = new Row(MOST_READ);
            to = new Row(MOST_READ);
            needs = new Row(MOST_READ);
            bars = new Row(MOST_READ);
        }

        int append(char character) {
            signs.put(length, character);
            length = length + 1;
            return length;
        }

        /** Answers whether the text is without a fault; if not, at is left on the fault. */
        boolean parse() {
            at = 0;
            sound = true;
            choices = 0;
            parseChoice();
            for (int i = 1; i < MOST_READ && sound && sign() == ';'; i++) {
                at = at + 1;
                parseChoice();
            }
            return sound && at == length;
        }

        private int sign() {
            return at < length ? signs.at(at) : END;
        }

        private void parseChoice() {
            int page = parseNumber();
            parseArrow();
            int target = parseNumber();
            int need = parseFlags('+');
            int bar = parseFlags('-');
            if (sound) {
                from.put(choices, page);
                to.put(choices, target);
                needs.put(choices, need);
                bars.put(choices, bar);
                choices = choices + 1;
            }
        }

        private int parseNumber() {
            if (!sound || !isDigit(sign())) {
                sound = false;
                return 0;
            }
            int number = sign() - '0';
            at = at + 1;
            if (number == 0 || !isDigit(sign())) {
                return number;
            }
            int longer = number * 10 + sign() - '0';
            if (longer >= MOST_PAGES) {
                return number;
            }
            at = at + 1;
            return longer;
        }

        private void parseArrow() {
            if (!sound || sign() != '>') {
                sound = false;
                return;
            }
            at = at + 1;
        }

        private int parseFlags(char lead) {
            if (!sound || sign() != lead) {
                return 0;
            }
            at = at + 1;
            int flags = 0;
            for (int flag = 0; flag < FLAGS; flag++) {
                if (sign() == 'a' + flag) {
                    flags = flags | 1 << flag;
                    at = at + 1;
                }
            }
            sound = flags != 0;
            return flags;
        }

        private static boolean isDigit(int sign) {
            return sign >= '0' && sign <= '9';
        }
    }

    /** What can be come to in a state; made anew only when it is asked behind an act. */
    private static final class Survey {
        private boolean known;
        private int pages;
        private int found;
        private final Row order;
        private final Row distance;
        private final Row before;
        private final Row by;
        private final Row ahead;
        private int ends;
        private int happyEnds;
        private int wayLength;
        private final Row way;

        Survey() {
            known = false;
            pages = 0;
            found = 0;
            order = new Row(PLACES);
            distance = new Row(PLACES);
            before = new Row(PLACES);
            by = new Row(PLACES);
            ahead = new Row(PLACES);
            ends = 0;
            happyEnds = 0;
            wayLength = NOWHERE;
            way = new Row(PLACES);
        }

        void make(State state) {
            pages = state.pages;
            findPlaces(state);
            findAhead(state);
            findEnds(state);
            findWay();
            known = true;
        }

        /**
         * Breadth first, choices in rising order: so the first way found to a place is
         * the shortest one, and of several the one that the document puts first.
         */
        private void findPlaces(State state) {
            found = 0;
            distance.fill(NOWHERE);
            if (state.pages == 0) {
                return;
            }
            addPlace(state.firstPlace(), 0, NOWHERE, NOWHERE);
            for (int i = 0; i < found && i < PLACES; i++) {
                int place = order.at(i);
                int open = state.openChoices(place);
                for (int choice = 0; choice < MOST_CHOICES; choice++) {
                    if (isIn(choice, open)) {
                        int next = state.placeBehind(place, choice);
                        addPlace(next, distance.at(place) + 1, place, choice);
                    }
                }
            }
        }

        private void addPlace(int place, int choices, int earlier, int choice) {
            if (isReached(place) || found >= PLACES) {
                return;
            }
            order.put(found, place);
            found = found + 1;
            distance.put(place, choices);
            before.put(place, earlier);
            by.put(place, choice);
            ahead.put(place, 0);
        }

        /** Sets of pages only grow, one step of a way a round at least: so the rounds are enough. */
        private void findAhead(State state) {
            boolean grows = true;
            for (int round = 0; grows && round <= PLACES; round++) {
                grows = growAhead(state);
            }
        }

        private boolean growAhead(State state) {
            boolean grows = false;
            for (int i = found - 1; i >= 0; i--) {
                int place = order.at(i);
                int open = state.openChoices(place);
                int seen = ahead.at(place);
                for (int choice = 0; choice < MOST_CHOICES; choice++) {
                    if (isIn(choice, open)) {
                        int next = state.placeBehind(place, choice);
                        seen = seen | 1 << pageAt(next) | ahead.at(next);
                    }
                }
                grows = grows || seen != ahead.at(place);
                ahead.put(place, seen);
            }
            return grows;
        }

        private void findEnds(State state) {
            ends = 0;
            happyEnds = 0;
            for (int page = 0; page < pages; page++) {
                int kind = state.kindOf(page);
                ends = ends | oneIf(kind != 0) << page;
                happyEnds = happyEnds | oneIf(kind == 1) << page;
            }
        }

        private void findWay() {
            wayLength = NOWHERE;
            for (int i = 0; i < found && wayLength == NOWHERE; i++) {
                if (isIn(pageAt(order.at(i)), happyEnds)) {
                    layWay(order.at(i));
                }
            }
        }

        private void layWay(int goal) {
            wayLength = distance.at(goal);
            int place = goal;
            for (int step = wayLength; step >= 0; step--) {
                way.put(step, place);
                place = before.at(place);
            }
        }

        int choiceOnWay(int step) {
            return step < wayLength ? by.at(way.at(step + 1)) : NONE;
        }

        private static boolean isIn(int number, int set) {
            return (set >>> number & 1) == 1;
        }

        private boolean isReached(int place) {
            return distance.at(place) != NOWHERE;
        }

        private boolean isStuck(int place) {
            return isReached(place) && !isIn(pageAt(place), ends) && (ahead.at(place) & ends) == 0;
        }

        int placesWith(int page) {
            int sum = 0;
            for (int flags = 0; flags < FLAG_SETS; flags++) {
                sum = sum + oneIf(isReached(placeOf(page, flags)));
            }
            return sum;
        }

        boolean isDead(int page) {
            return placesWith(page) == 0;
        }

        boolean comesAgain(int page) {
            for (int flags = 0; flags < FLAG_SETS; flags++) {
                int place = placeOf(page, flags);
                if (isReached(place) && isIn(page, ahead.at(place))) {
                    return true;
                }
            }
            return false;
        }

        int stuckPlacesWith(int page) {
            int sum = 0;
            for (int flags = 0; flags < FLAG_SETS; flags++) {
                sum = sum + oneIf(isStuck(placeOf(page, flags)));
            }
            return sum;
        }

        int fewestChoicesTo(int page) {
            for (int i = 0; i < found; i++) {
                // The order never falls in its distances: the first place is a nearest one.
                if (pageAt(order.at(i)) == page) {
                    return distance.at(order.at(i));
                }
            }
            return NONE;
        }

        int deadPages() {
            int sum = 0;
            for (int page = 0; page < pages; page++) {
                sum = sum + oneIf(isDead(page));
            }
            return sum;
        }

        int pagesThatComeAgain() {
            int sum = 0;
            for (int page = 0; page < pages; page++) {
                sum = sum + oneIf(comesAgain(page));
            }
            return sum;
        }

        int stuckPlaces() {
            int sum = 0;
            for (int page = 0; page < pages; page++) {
                sum = sum + stuckPlacesWith(page);
            }
            return sum;
        }

        int livePagesOf(int set) {
            int sum = 0;
            for (int page = 0; page < pages; page++) {
                sum = sum + oneIf(isIn(page, set) && !isDead(page));
            }
            return sum;
        }

        boolean isEverOpen(State state, int page, int choice) {
            for (int flags = 0; flags < FLAG_SETS; flags++) {
                int place = placeOf(page, flags);
                if (isReached(place) && state.reasonAt(place, choice) == 0) {
                    return true;
                }
            }
            return false;
        }
    }
}
