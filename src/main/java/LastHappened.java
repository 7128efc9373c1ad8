/**
 * Streets called by what last happened there: ../shared/DOC.md promises what every call answers.
 * The face looks at the arguments and counts what it refuses; the classes inside do the work, in
 * rows that are made once with the object, so that calls make next to nothing.
 */
public final class LastHappened {
    public static final int NONE = -1, BAD = -2, NO = -3, FULL = -4;

    private static final int BAD_TOO = -10;
    private static final int NOT_SO_MANY = -5;

    private static final int CORNERS = 8;
    private static final int STREETS = 7;
    private static final int EVENTS = 8;
    private static final int READINGS = 6;
    private static final int HOURS = 24;
    private static final int WORDS = 16;
    private static final int BYTES = 150;
    private static final int UNDOABLE = 8;
    private static final int IMAGES = 2;
    private static final int SEEDS = 1000000;
    private static final int DAYS = 31;
    private static final int CHANCES = 101;
    private static final int PRICES = 100;

    // What can be told of a town, by a call or by an item of the text.
    private static final int TOWN = 0;
    private static final int STREET = 1;
    private static final int EVENT = 2;
    private static final int RENT = 3;
    private static final int MOST_NUMBERS = 6;
    private static final int[] NUMBERS = {1, 4, 6, 2};
    // Each number is below its limit; a row of six for town, street, event, rent.
    private static final int[] LIMITS = {
        3, 0, 0, 0, 0, 0,
        8, 8, 10, 16, 0, 0,
        6, 7, 24, 10, 10, 16,
        16, 100, 0, 0, 0, 0};

    // The numbers of a street, in the order in which they are told.
    private static final int FROM = 0;
    private static final int TO = 1;
    private static final int MINUTES = 2;
    private static final int FIRST_WORD = 3;

    // The numbers of an event and of a reading, in the order in which they are told.
    private static final int KIND = 0;
    private static final int PLACE = 1;
    private static final int HOUR = 2;
    private static final int SEEN = 3;
    private static final int RANK = 4;
    private static final int WORD = 5;
    private static final int READ_AT = 0;
    private static final int READ_HOUR = 1;
    private static final int READ_WORD = 2;

    // Kinds 0 to 5: plain; parade, murder, staged (under plain); birth (under parade); trial (under murder).
    // What a kind leaves as it is stands here as the number of the kind that it is under.
    private static final int PARADE = 1;
    private static final int STAGED = 3;
    private static final int[] NEEDED = {2, 3, 2, 4, 2, 2};
    private static final int[] MORE_RANK = {0, 0, 0, 0, 1, 2};
    private static final int[] STANDS = {3, 3, 9, 3, 3, 18};

    private final Town town = new Town();
    private final Town fresh = new Town();
    private final Town firstImage = new Town();
    private final Town secondImage = new Town();
    private final Text text = new Text();
    private final Day day = new Day();
    private final Names names = new Names(day);
    private final Search search = new Search(day);
    private final Walks walks = new Walks();
    private final int[] told = new int[MOST_NUMBERS];
    private int keptImages = 0;
    private int bads = 0;
    private int noes = 0;
    private int fulls = 0;

    public LastHappened() {
    }

    // ---- a town

    public int town(int law) {
        told[0] = law;
        return tell(TOWN);
    }

    public int street(int a, int b, int minutes, int word) {
        told[FROM] = a;
        told[TO] = b;
        told[MINUTES] = minutes;
        told[FIRST_WORD] = word;
        return tell(STREET);
    }

    public int event(int kind, int street, int hour, int seen, int rank, int word) {
        told[KIND] = kind;
        told[PLACE] = street;
        told[HOUR] = hour;
        told[SEEN] = seen;
        told[RANK] = rank;
        told[WORD] = word;
        return tell(EVENT);
    }

    public int back(int event) {
        if (!isBelow(event, town.events.size())) {
            return refuseBad();
        }
        town.dropEvent(event);
        return town.events.size();
    }

    public int law(int n) {
        if (!isBelow(n, LIMITS[0])) {
            return refuseBad();
        }
        return town.changeLaw(n);
    }

    public int undo() {
        if (town.past.size() == 0) {
            return refuseNo();
        }
        town.goBack();
        return town.events.size();
    }

    public int rent(int word, int n) {
        told[0] = word;
        told[1] = n;
        return tell(RENT);
    }

    public int type(int c) {
        if (!isBelow(c, 128)) {
            return refuseBad();
        }
        if (text.isFull()) {
            return refuseFull();
        }
        text.add(c);
        return text.size();
    }

    public int clear() {
        int had = text.size();
        text.empty();
        return had;
    }

    public int read() {
        int items = text.readInto(fresh);
        if (items >= 0) {
            town.copy(fresh);
        }
        return items;
    }

    public int of(int event, int what) {
        if (!isBelow(event, town.events.size()) || !isBelow(what, 10)) {
            return refuseBad();
        }
        switch (what) {
            case 6:
                return town.needed(event);
            case 7:
                return town.rankGiven(event);
            case 8:
                return town.hoursGiven(event);
            case 9:
                return town.streetsOf(event);
            default:
                return town.events.cell(event, what);
        }
    }

    // ---- names

    public int name(int street, int hour) {
        if (!isStreet(street) || !isHour(hour)) {
            return refuseBad();
        }
        names.write(town);
        return names.at(street, hour);
    }

    public int changes(int street) {
        if (!isStreet(street)) {
            return refuseBad();
        }
        day.plan(town);
        return day.renamings(street, Day.ALL);
    }

    public int which(int name, int a, int b) {
        if (name < 0 || !isHour(a) || !isHour(b) || b < a) {
            return refuseBad();
        }
        names.write(town);
        int streets = 0;
        for (int hour = a; hour <= b; hour++) {
            streets |= names.having(name, hour);
        }
        return streets;
    }

    public int letter(int street, int a, int b) {
        if (!isStreet(street) || !isHour(a) || !isHour(b) || b < a) {
            return refuseBad();
        }
        names.write(town);
        int brought = names.firstHaving(names.at(street, a), b);
        if (brought == NONE) {
            return 2;
        }
        return brought == street ? 0 : 1;
    }

    public int cab(int street, int hour, int k) {
        if (!isStreet(street) || !isHour(hour) || !isHour(k)) {
            return refuseBad();
        }
        names.write(town);
        return names.firstHaving(names.at(street, hour), Math.max(0, hour - k));
    }

    public int find(int streets, int what) {
        if (!areStreets(streets) || !isBelow(what, 2)) {
            return refuseBad();
        }
        names.write(town);
        int best = 0;
        for (int hour = 1; hour < HOURS; hour++) {
            if (names.mostAlike(streets, hour) < names.mostAlike(streets, best)) {
                best = hour;
            }
        }
        return what == 0 ? best : names.mostAlike(streets, best);
    }

    // ---- what to do

    public int stage(int street, int word, int hour, int i) {
        if (!isStreet(street) || !isBelow(word, WORDS) || !isHour(hour) || i < NONE) {
            refuseBad();
            return BAD_TOO;
        }
        day.plan(town);
        int fewest = search.fewestStaged(street, word, hour);
        if (fewest == NONE || i == NONE) {
            return fewest;
        }
        return i < fewest ? search.hourStaged(i) : NOT_SO_MANY;
    }

    public int forbid(int street) {
        if (!isStreet(street)) {
            return refuseBad();
        }
        day.plan(town);
        return search.fewestForbidden(street, town);
    }

    public int rents(int street) {
        if (!isStreet(street)) {
            return refuseBad();
        }
        day.plan(town);
        return day.rentOf(street, town);
    }

    public int landlords(int a, int b, int hour, int n) {
        if (!isStreet(a) || !isStreet(b) || a == b || !isHour(hour) || !isBelow(n, PRICES)) {
            return refuseBad();
        }
        search.weighPairs(a, b, hour, n, town);
        return search.pairsThatRest();
    }

    public int round(int corner, int streets) {
        if (!isBelow(corner, CORNERS) || !areStreets(streets)) {
            return refuseBad();
        }
        return walks.shortest(town.streets, corner, streets);
    }

    // ---- what was read, drawn

    public int reading(int street, int hour, int word) {
        if (!isStreet(street) || !isHour(hour) || !isBelow(word, WORDS)) {
            return refuseBad();
        }
        if (town.readings.isFull()) {
            return refuseFull();
        }
        told[READ_AT] = street;
        told[READ_HOUR] = hour;
        told[READ_WORD] = word;
        town.readings.add(told);
        return town.readings.size() - 1;
    }

    public int burn() {
        int had = town.readings.size();
        town.readings.empty();
        return had;
    }

    public int truly(int what) {
        if (!isBelow(what, 2)) {
            refuseBad();
            return BAD_TOO;
        }
        day.plan(town);
        int sets = search.trueSets(town);
        if (what == 0) {
            return sets;
        }
        return sets == 0 ? NONE : search.inAllTrueSets();
    }

    public int drawn(int seed, int n, int w) {
        if (!isBelow(seed, SEEDS) || !isBelow(n, DAYS) || !isBelow(w, CHANCES)) {
            return refuseBad();
        }
        day.plan(town);
        return search.renamingsOfDays(seed, n, w, town);
    }

    // ---- what there is

    public int image(int i) {
        if (!isBelow(i, IMAGES)) {
            return refuseBad();
        }
        imageOf(i).copy(town);
        keptImages |= 1 << i;
        return 1;
    }

    public int from(int i) {
        if (!isBelow(i, IMAGES)) {
            return refuseBad();
        }
        if (!holds(keptImages, i)) {
            return refuseNo();
        }
        town.copy(imageOf(i));
        return 1;
    }

    public int status(int what) {
        switch (what) {
            case 0:
                return bads;
            case 1:
                return noes;
            case 2:
                return fulls;
            default:
                refuseBad();
                return -1;
        }
    }

    public int count(int what) {
        if (!isBelow(what, 6)) {
            return refuseBad();
        }
        return countOf(what);
    }

    public long digest() {
        long h = 911;
        for (int what = 0; what < 6; what++) {
            h = 31 * h + countOf(what);
        }
        return town.mixInto(h);
    }

    // ---- what the calls have in common

    private static boolean isBelow(int value, int limit) {
        return value >= 0 && value < limit;
    }

    private static boolean isHour(int value) {
        return isBelow(value, HOURS);
    }

    private static boolean holds(int bits, int place) {
        return (bits >> place & 1) != 0;
    }

    private boolean isStreet(int value) {
        return isBelow(value, town.streets.size());
    }

    private boolean areStreets(int bits) {
        return isBelow(bits, 1 << town.streets.size());
    }

    /** Takes what stands in the row of told numbers, unless it is refused. */
    private int tell(int item) {
        for (int place = 0; place < NUMBERS[item]; place++) {
            if (!town.fits(item, place, told)) {
                return refuseBad();
            }
        }
        if (town.hasNoRoomFor(item)) {
            return refuseFull();
        }
        return town.take(item, told);
    }

    private Town imageOf(int i) {
        return i == 0 ? firstImage : secondImage;
    }

    private int countOf(int what) {
        switch (what) {
            case 0:
                return town.streets.size();
            case 1:
                return town.events.size();
            case 2:
                return town.law;
            case 3:
                return town.readings.size();
            case 4:
                return town.past.size();
            default:
                return text.size();
        }
    }

    private int refuseBad() {
        bads++;
        return BAD;
    }

    private int refuseNo() {
        noes++;
        return NO;
    }

    private int refuseFull() {
        fulls++;
        return FULL;
    }

    /** Rows of numbers, so many at most, all of one width, kept in one array. */
    private static final class Rows {
        private final int width;
        private final int[] cells;
        private int size = 0;

        Rows(int width, int limit) {
            this.width = width;
            this.cells = new int[width * limit];
        }

        int size() {
            return size;
        }

        boolean isFull() {
            return (size + 1) * width > cells.length;
        }

        int cell(int row, int column) {
            if (row < 0 || row >= size || column < 0 || column >= width) {
                return 0;
            }
            return cells[row * width + column];
        }

        void add(int[] row) {
            insert(size, row);
        }

        void insert(int place, int[] row) {
            if (isFull() || place < 0 || place > size || row.length < width) {
                return;
            }
            int start = place * width;
            System.arraycopy(cells, start, cells, start + width, (size - place) * width);
            System.arraycopy(row, 0, cells, start, width);
            size++;
        }

        void drop(int place) {
            if (!isBelow(place, size)) {
                return;
            }
            int start = place * width;
            System.arraycopy(cells, start + width, cells, start, (size - place - 1) * width);
            size--;
        }

        void empty() {
            size = 0;
        }

        void copy(Rows other) {
            if (other.width != width || other.cells.length != cells.length) {
                return;
            }
            System.arraycopy(other.cells, 0, cells, 0, cells.length);
            size = other.size;
        }

        long mixInto(long h) {
            long mixed = h;
            for (int i = 0; i < size * width; i++) {
                mixed = 31 * mixed + cells[i];
            }
            return mixed;
        }
    }

    /** All that an image keeps. */
    private static final class Town {
        // What is remembered for undo: the law, how many events, then the events themselves.
        private static final int OLD_LAW = 0;
        private static final int OLD_SIZE = 1;
        private static final int OLD_EVENTS = 2;
        private static final int OLD_WIDTH = OLD_EVENTS + EVENTS * MOST_NUMBERS;

        private final Rows streets = new Rows(4, STREETS);
        private final Rows events = new Rows(MOST_NUMBERS, EVENTS);
        private final Rows readings = new Rows(3, READINGS);
        private final Rows past = new Rows(OLD_WIDTH, UNDOABLE);
        private final int[] rentOfWord = new int[WORDS];
        private final int[] old = new int[OLD_WIDTH];
        private final int[] row = new int[MOST_NUMBERS];
        private int law = 0;

        /** Whether a told number can stand at its place, when those ahead of it can. */
        boolean fits(int item, int place, int[] told) {
            if (!isBelow(item, NUMBERS.length) || !isBelow(place, NUMBERS[item])) {
                return false;
            }
            int value = told[place];
            if (item == STREET && place == TO && value == told[FROM]) {
                return false;
            }
            if (item == STREET && place == MINUTES && value < 1) {
                return false;
            }
            if (item == EVENT && place == PLACE) {
                return isBelow(value, streets.size());
            }
            return isBelow(value, LIMITS[item * MOST_NUMBERS + place]);
        }

        boolean hasNoRoomFor(int item) {
            return item == STREET && streets.isFull() || item == EVENT && events.isFull();
        }

        /** Takes what fits and has room; answers as the call that tells it. */
        int take(int item, int[] told) {
            switch (item) {
                case TOWN:
                    return begin(told[0]);
                case STREET:
                    past.empty();
                    streets.add(told);
                    return streets.size() - 1;
                case EVENT:
                    remember();
                    events.add(told);
                    return events.size() - 1;
                default:
                    return changeRent(told[0], told[1]);
            }
        }

        private int begin(int newLaw) {
            int had = streets.size();
            streets.empty();
            events.empty();
            readings.empty();
            past.empty();
            for (int word = 0; word < WORDS; word++) {
                rentOfWord[word] = 0;
            }
            law = newLaw;
            return had;
        }

        private int changeRent(int word, int rent) {
            if (!isBelow(word, WORDS)) {
                return 0;
            }
            int was = rentOfWord[word];
            rentOfWord[word] = rent;
            return was;
        }

        void dropEvent(int event) {
            remember();
            events.drop(event);
        }

        int changeLaw(int newLaw) {
            int was = law;
            remember();
            law = newLaw;
            return was;
        }

        private void remember() {
            old[OLD_LAW] = law;
            old[OLD_SIZE] = events.size();
            for (int i = 0; i < EVENTS * MOST_NUMBERS; i++) {
                old[OLD_EVENTS + i] = events.cell(i / MOST_NUMBERS, i % MOST_NUMBERS);
            }
            if (past.isFull()) {
                past.drop(0);
            }
            past.add(old);
        }

        void goBack() {
            int last = past.size() - 1;
            law = past.cell(last, OLD_LAW);
            events.empty();
            for (int event = 0; event < past.cell(last, OLD_SIZE); event++) {
                for (int what = 0; what < MOST_NUMBERS; what++) {
                    row[what] = past.cell(last, OLD_EVENTS + event * MOST_NUMBERS + what);
                }
                events.add(row);
            }
            past.drop(last);
        }

        void forgetPast() {
            past.empty();
        }

        int needed(int event) {
            return NEEDED[kindOf(event)];
        }

        boolean isSeenByEnough(int event) {
            return events.cell(event, SEEN) >= needed(event);
        }

        int rankGiven(int event) {
            return rankBy(kindOf(event), events.cell(event, RANK));
        }

        int hoursGiven(int event) {
            return STANDS[kindOf(event)];
        }

        int streetsOf(int event) {
            int place = events.cell(event, PLACE);
            if (kindOf(event) != PARADE) {
                return 1 << place;
            }
            int bits = 0;
            for (int street = 0; street < streets.size(); street++) {
                if (meet(place, street)) {
                    bits |= 1 << street;
                }
            }
            return bits;
        }

        private int kindOf(int event) {
            int kind = events.cell(event, KIND);
            return isBelow(kind, NEEDED.length) ? kind : 0;
        }

        private boolean meet(int one, int other) {
            int from = streets.cell(one, FROM);
            int to = streets.cell(one, TO);
            int otherFrom = streets.cell(other, FROM);
            int otherTo = streets.cell(other, TO);
            return from == otherFrom || from == otherTo || to == otherFrom || to == otherTo;
        }

        int rentAt(int word) {
            return isBelow(word, WORDS) ? rentOfWord[word] : 0;
        }

        int dearestWord() {
            int dearest = 0;
            for (int word = 1; word < WORDS; word++) {
                if (rentOfWord[word] > rentOfWord[dearest]) {
                    dearest = word;
                }
            }
            return dearest;
        }

        void copy(Town other) {
            streets.copy(other.streets);
            events.copy(other.events);
            readings.copy(other.readings);
            past.copy(other.past);
            System.arraycopy(other.rentOfWord, 0, rentOfWord, 0, WORDS);
            law = other.law;
        }

        long mixInto(long h) {
            long mixed = events.mixInto(streets.mixInto(h));
            for (int word = 0; word < WORDS; word++) {
                mixed = 31 * mixed + rentOfWord[word];
            }
            return readings.mixInto(mixed);
        }
    }

    private static int rankBy(int kind, int rank) {
        if (kind == STAGED) {
            return rank / 2;
        }
        return isBelow(kind, MORE_RANK.length) ? rank + MORE_RANK[kind] : rank;
    }

    /** The text, and how a town is read from it, a token at a time. */
    private static final class Text {
        private static final int END = 0;
        private static final int LETTERS = 1;
        private static final int NUMBER = 2;
        private static final int SEMICOLON = 3;
        private static final int NO_TOKEN = 4;

        private final int[] bytes = new int[BYTES];
        private final int[] told = new int[MOST_NUMBERS];
        private int size = 0;
        // Where the next token is looked for, and the one that was found last.
        private int next = 0;
        private int sort = END;
        private int start = 0;

        int size() {
            return size;
        }

        boolean isFull() {
            return size >= BYTES;
        }

        void add(int c) {
            if (isFull()) {
                return;
            }
            bytes[size] = c;
            size++;
        }

        void empty() {
            size = 0;
        }

        /** How many items were read into the town; -10 less the fault, and the town is not whole. */
        int readInto(Town town) {
            next = 0;
            for (int items = 0; items <= BYTES; items++) {
                findToken();
                if (sort == END && items > 0) {
                    town.forgetPast();
                    return items;
                }
                if (!takeItem(town, items == 0)) {
                    break;
                }
            }
            return -10 - start;
        }

        /** Takes the item that begins with the token found last; if none can, that found then is the fault. */
        private boolean takeItem(Town town, boolean isFirst) {
            int item = itemCalled();
            if (item == NONE || isFirst != (item == TOWN) || town.hasNoRoomFor(item)) {
                return false;
            }
            for (int place = 0; place < NUMBERS[item]; place++) {
                findToken();
                if (sort != NUMBER) {
                    return false;
                }
                told[place] = value();
                if (!town.fits(item, place, told)) {
                    return false;
                }
            }
            findToken();
            if (sort != SEMICOLON) {
                return false;
            }
            town.take(item, told);
            return true;
        }

        private int itemCalled() {
            if (isWord("town")) {
                return TOWN;
            }
            if (isWord("street")) {
                return STREET;
            }
            if (isWord("event")) {
                return EVENT;
            }
            return isWord("rent") ? RENT : NONE;
        }

        private boolean isWord(String word) {
            if (sort != LETTERS || next - start != word.length()) {
                return false;
            }
            for (int i = 0; i < word.length(); i++) {
                if (byteAt(start + i) != word.charAt(i)) {
                    return false;
                }
            }
            return true;
        }

        private int value() {
            int value = 0;
            for (int i = start; i < next; i++) {
                value = 10 * value + byteAt(i) - '0';
            }
            return value;
        }

        private void findToken() {
            while (next < size && byteAt(next) == ' ') {
                next++;
            }
            start = next;
            if (isLetter(next)) {
                while (next < size && isLetter(next)) {
                    next++;
                }
                sort = LETTERS;
            } else if (isFigure(next)) {
                while (next < size && isFigure(next)) {
                    next++;
                }
                sort = next - start <= 2 ? NUMBER : NO_TOKEN;
            } else if (next >= size) {
                sort = END;
            } else {
                sort = byteAt(next) == ';' ? SEMICOLON : NO_TOKEN;
                next++;
            }
        }

        private int byteAt(int place) {
            return isBelow(place, size) ? bytes[place] : NONE;
        }

        private boolean isLetter(int place) {
            return byteAt(place) >= 'a' && byteAt(place) <= 'z';
        }

        private boolean isFigure(int place) {
            return byteAt(place) >= '0' && byteAt(place) <= '9';
        }
    }

    /**
     * What happens in a day, in the order in which it does, and the names that streets have by it.
     * A street is renamed whatever other streets are called (only its number looks at them), so one
     * street can be followed alone where words are all that is asked for.
     */
    private static final class Day {
        static final int ALL = -1;

        // The numbers of a happening.
        private static final int TIME = 0;
        private static final int WHERE = 1;
        private static final int NEW_WORD = 2;
        private static final int NEW_RANK = 3;
        private static final int NEW_TILL = 4;
        private static final int BIT = 5;
        private static final int WIDTH = 6;
        private static final int STAGED_BIT = 1 << EVENTS;

        private final Rows happenings = new Rows(WIDTH, EVENTS + 2);
        private final int[] row = new int[WIDTH];
        private final int[] firstWord = new int[STREETS];
        private final int[] word = new int[STREETS];
        private final int[] number = new int[STREETS];
        private final int[] rank = new int[STREETS];
        private final int[] till = new int[STREETS];
        private int streets = 0;
        private int law = 0;
        private int next = 0;

        void plan(Town town) {
            law = town.law;
            streets = town.streets.size();
            for (int street = 0; street < streets; street++) {
                firstWord[street] = town.streets.cell(street, FIRST_WORD);
            }
            happenings.empty();
            for (int event = 0; event < town.events.size(); event++) {
                if (town.isSeenByEnough(event)) {
                    planEvent(town, event);
                }
            }
        }

        private void planEvent(Town town, int event) {
            row[TIME] = town.events.cell(event, HOUR);
            row[WHERE] = town.streetsOf(event);
            row[NEW_WORD] = town.events.cell(event, WORD);
            row[NEW_RANK] = town.rankGiven(event);
            row[NEW_TILL] = row[TIME] + town.hoursGiven(event);
            row[BIT] = 1 << event;
            happenings.insert(placeBehind(row[TIME]), row);
        }

        /** Plans an event more, behind all others of its hour: where it stands, to be dropped there. */
        int addStaged(int street, int newWord, int hour) {
            int place = placeBehind(hour);
            row[TIME] = hour;
            row[WHERE] = 1 << street;
            row[NEW_WORD] = newWord;
            row[NEW_RANK] = rankBy(STAGED, 9);
            row[NEW_TILL] = hour + STANDS[STAGED];
            row[BIT] = STAGED_BIT;
            happenings.insert(place, row);
            return place;
        }

        void dropStaged(int place) {
            happenings.drop(place);
        }

        private int placeBehind(int hour) {
            int place = 0;
            while (place < happenings.size() && happenings.cell(place, TIME) <= hour) {
                place++;
            }
            return place;
        }

        int streets() {
            return streets;
        }

        int firstWordOf(int street) {
            return isBelow(street, STREETS) ? firstWord[street] : NONE;
        }

        int wordIn(int street, int hour, int happens) {
            if (!isBelow(street, STREETS)) {
                return NONE;
            }
            begin(street);
            live(street, hour, happens);
            return word[street];
        }

        int renamings(int street, int happens) {
            if (!isBelow(street, STREETS)) {
                return 0;
            }
            begin(street);
            return live(street, HOURS - 1, happens);
        }

        int rentOf(int street, Town town) {
            if (!isBelow(street, STREETS)) {
                return 0;
            }
            begin(street);
            int sum = 0;
            for (int hour = 0; hour < HOURS; hour++) {
                live(street, hour, ALL);
                sum += town.rentAt(word[street]);
            }
            return sum;
        }

        private void begin(int street) {
            next = 0;
            word[street] = firstWord[street];
            number[street] = 1;
            rank[street] = 0;
            till[street] = 0;
        }

        /** Lets happen to one street what is left till an hour: how often it is renamed by that. */
        private int live(int street, int hour, int happens) {
            int times = 0;
            for (; next < happenings.size() && happenings.cell(next, TIME) <= hour; next++) {
                if ((happenings.cell(next, BIT) & happens) != 0 && isRenamed(street, next)) {
                    times++;
                }
            }
            return times;
        }

        void beginAll() {
            for (int street = 0; street < streets; street++) {
                begin(street);
            }
        }

        /** Lets happen to all streets what is left till an hour. */
        void liveAll(int hour) {
            for (; next < happenings.size() && happenings.cell(next, TIME) <= hour; next++) {
                for (int street = 0; street < streets; street++) {
                    if (isRenamed(street, next)) {
                        number[street] = numberFor(street);
                    }
                }
            }
        }

        int nameNow(int street) {
            return isBelow(street, STREETS) ? 100 * number[street] + word[street] : NONE;
        }

        /** Whether a happening renames a street, which then has the new name, but for its number. */
        private boolean isRenamed(int street, int happening) {
            int newRank = happenings.cell(happening, NEW_RANK);
            if (!holds(happenings.cell(happening, WHERE), street)
                    || !yields(street, happenings.cell(happening, TIME), newRank)) {
                return false;
            }
            word[street] = happenings.cell(happening, NEW_WORD);
            rank[street] = newRank;
            till[street] = happenings.cell(happening, NEW_TILL);
            return true;
        }

        private boolean yields(int street, int hour, int newRank) {
            if (hour >= till[street] || law == 2) {
                return true;
            }
            return law == 0 ? newRank >= rank[street] : newRank > rank[street];
        }

        private int numberFor(int street) {
            int like = 1;
            for (int other = 0; other < streets; other++) {
                if (other != street && word[other] == word[street]) {
                    like++;
                }
            }
            return like;
        }
    }

    /** The names of all streets in all hours. */
    private static final class Names {
        private final Day day;
        private final int[] names = new int[HOURS * STREETS];

        Names(Day day) {
            this.day = day;
        }

        void write(Town town) {
            day.plan(town);
            day.beginAll();
            for (int hour = 0; hour < HOURS; hour++) {
                day.liveAll(hour);
                for (int street = 0; street < day.streets(); street++) {
                    names[hour * STREETS + street] = day.nameNow(street);
                }
            }
        }

        int at(int street, int hour) {
            return isBelow(street, STREETS) && isHour(hour) ? names[hour * STREETS + street] : NONE;
        }

        int having(int name, int hour) {
            int bits = 0;
            for (int street = 0; street < day.streets(); street++) {
                if (at(street, hour) == name) {
                    bits |= 1 << street;
                }
            }
            return bits;
        }

        int firstHaving(int name, int hour) {
            for (int street = 0; street < day.streets(); street++) {
                if (at(street, hour) == name) {
                    return street;
                }
            }
            return NONE;
        }

        /** How many of some streets have one name in an hour, at the most. */
        int mostAlike(int streets, int hour) {
            int most = 0;
            for (int street = 0; street < day.streets(); street++) {
                if (holds(streets, street)) {
                    int alike = Integer.bitCount(streets & having(at(street, hour), hour));
                    most = Math.max(most, alike);
                }
            }
            return most;
        }
    }

    /** What could happen instead of the day as it is planned. */
    private static final class Search {
        private static final int A = 1;
        private static final int B = 2;
        private static final int PAIRS = 4;

        private final Day day;
        private final int[] getsOfA = new int[PAIRS];
        private final int[] getsOfB = new int[PAIRS];
        private int firstStaged = 0;
        private int secondStaged = 0;
        private int inAllSets = 0;

        Search(Day day) {
            this.day = day;
        }

        /** How many events, 0 to 2, have to be staged; none if these are not enough. */
        int fewestStaged(int street, int word, int hour) {
            if (day.wordIn(street, hour, Day.ALL) == word) {
                return 0;
            }
            firstStaged = hourOfOne(street, word, 0, hour);
            if (firstStaged != NONE) {
                return 1;
            }
            for (int first = 0; first < hour; first++) {
                int place = day.addStaged(street, word, first);
                secondStaged = hourOfOne(street, word, first + 1, hour);
                day.dropStaged(place);
                if (secondStaged != NONE) {
                    firstStaged = first;
                    return 2;
                }
            }
            return NONE;
        }

        int hourStaged(int i) {
            return i == 0 ? firstStaged : secondStaged;
        }

        /** The first hour, from one told, in which one event more is enough; none. */
        private int hourOfOne(int street, int word, int from, int hour) {
            for (int h = from; h <= hour; h++) {
                int place = day.addStaged(street, word, h);
                boolean isEnough = day.wordIn(street, hour, Day.ALL) == word;
                day.dropStaged(place);
                if (isEnough) {
                    return h;
                }
            }
            return NONE;
        }

        int fewestForbidden(int street, Town town) {
            int all = (1 << town.events.size()) - 1;
            int best = NONE;
            for (int forbidden = 0; forbidden <= all; forbidden++) {
                boolean isFewer = best == NONE || Integer.bitCount(forbidden) < Integer.bitCount(best);
                if (isFewer && day.wordIn(street, HOURS - 1, ~forbidden) == day.firstWordOf(street)) {
                    best = forbidden;
                }
            }
            return best;
        }

        int trueSets(Town town) {
            int all = (1 << town.events.size()) - 1;
            int sets = 0;
            inAllSets = all;
            for (int happened = 0; happened <= all; happened++) {
                if (agrees(happened, town.readings)) {
                    sets++;
                    inAllSets &= happened;
                }
            }
            return sets;
        }

        int inAllTrueSets() {
            return inAllSets;
        }

        private boolean agrees(int happened, Rows readings) {
            for (int i = 0; i < readings.size(); i++) {
                int word = day.wordIn(readings.cell(i, READ_AT), readings.cell(i, READ_HOUR), happened);
                if (word != readings.cell(i, READ_WORD)) {
                    return false;
                }
            }
            return true;
        }

        /** What each landlord gets in each of the four pairs, which are bits of who stages. */
        void weighPairs(int a, int b, int hour, int price, Town town) {
            int word = town.dearestWord();
            for (int pair = 0; pair < PAIRS; pair++) {
                day.plan(town);
                if ((pair & A) != 0) {
                    day.addStaged(a, word, hour);
                }
                if ((pair & B) != 0) {
                    day.addStaged(b, word, hour);
                }
                getsOfA[pair] = day.rentOf(a, town) - ((pair & A) != 0 ? price : 0);
                getsOfB[pair] = day.rentOf(b, town) - ((pair & B) != 0 ? price : 0);
            }
        }

        int pairsThatRest() {
            int bits = 0;
            for (int pair = 0; pair < PAIRS; pair++) {
                if (getsOfA[pair] >= getsOfA[pair ^ A] && getsOfB[pair] >= getsOfB[pair ^ B]) {
                    bits |= 1 << pair;
                }
            }
            return bits;
        }

        int renamingsOfDays(int seed, int days, int chance, Town town) {
            long x = seed;
            int times = 0;
            for (int d = 0; d < days; d++) {
                int happens = 0;
                for (int event = 0; event < town.events.size(); event++) {
                    x = (x * 1103515245L + 12345L) % 2147483648L;
                    if (x / 65536 % 100 < chance) {
                        happens |= 1 << event;
                    }
                }
                for (int street = 0; street < day.streets(); street++) {
                    times += day.renamings(street, happens);
                }
            }
            return times;
        }
    }

    /** The postman's ways. */
    private static final class Walks {
        private static final int FAR = 1000000;

        private final int[] between = new int[CORNERS * CORNERS];
        // The fewest minutes by which some streets (bits) are gone along and a corner is reached.
        private final int[] fewest = new int[(1 << STREETS) * CORNERS];

        int shortest(Rows streets, int corner, int all) {
            if (!isBelow(corner, CORNERS) || !isBelow(all, 1 << STREETS)) {
                return NONE;
            }
            measure(streets);
            for (int i = 0; i < fewest.length; i++) {
                fewest[i] = FAR;
            }
            fewest[corner] = 0;
            for (int gone = 0; gone < all; gone++) {
                if ((gone & all) == gone) {
                    goOn(streets, gone, all);
                }
            }
            int best = FAR;
            for (int end = 0; end < CORNERS; end++) {
                best = Math.min(best, fewest[all * CORNERS + end]);
            }
            return best < FAR ? best : NONE;
        }

        private void measure(Rows streets) {
            for (int i = 0; i < between.length; i++) {
                between[i] = i / CORNERS == i % CORNERS ? 0 : FAR;
            }
            for (int street = 0; street < streets.size(); street++) {
                int a = streets.cell(street, FROM);
                int b = streets.cell(street, TO);
                shorten(a, b, streets.cell(street, MINUTES));
                shorten(b, a, streets.cell(street, MINUTES));
            }
            for (int via = 0; via < CORNERS; via++) {
                for (int a = 0; a < CORNERS; a++) {
                    for (int b = 0; b < CORNERS; b++) {
                        shorten(a, b, between[a * CORNERS + via] + between[via * CORNERS + b]);
                    }
                }
            }
        }

        private void shorten(int a, int b, int minutes) {
            if (isBelow(a, CORNERS) && isBelow(b, CORNERS)) {
                between[a * CORNERS + b] = Math.min(between[a * CORNERS + b], minutes);
            }
        }

        /** Goes from every corner that is reached along each street that is left, either way. */
        private void goOn(Rows streets, int gone, int all) {
            for (int street = 0; street < streets.size(); street++) {
                if (holds(all & ~gone, street)) {
                    int a = streets.cell(street, FROM);
                    int b = streets.cell(street, TO);
                    int then = gone | 1 << street;
                    int minutes = streets.cell(street, MINUTES);
                    reach(then, b, soonest(gone, a) + minutes);
                    reach(then, a, soonest(gone, b) + minutes);
                }
            }
        }

        private int soonest(int gone, int corner) {
            int best = FAR;
            if (!isBelow(corner, CORNERS)) {
                return best;
            }
            for (int at = 0; at < CORNERS; at++) {
                best = Math.min(best, fewest[gone * CORNERS + at] + between[at * CORNERS + corner]);
            }
            return best;
        }

        private void reach(int gone, int corner, int minutes) {
            if (isBelow(corner, CORNERS)) {
                int place = gone * CORNERS + corner;
                fewest[place] = Math.min(fewest[place], minutes);
            }
        }
    }
}
