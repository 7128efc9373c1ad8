import java.util.function.LongSupplier;

/** For each promise of ../shared/DOC.md: ordinary inputs, the edges it names, wrong inputs. */
public final class PromiseTest {
    private static final int NONE = -1;
    private static final int BAD = -2;
    private static final int NO = -3;
    private static final int FULL = -4;

    private PromiseTest() {
    }

    private static void due(String call, long got, long want) {
        Calls.due(call, got, want);
    }

    /** A call that is refused: its answer, which count of STATUS goes up by it, and that no more changes. */
    private static void refused(LastHappened x, String call, LongSupplier answer, long want, int counted) {
        long before = x.digest();
        int[] status = {x.status(0), x.status(1), x.status(2)};
        due(call, answer.getAsLong(), want);
        due(call + ": digest", x.digest(), before);
        for (int what = 0; what < 3; what++) {
            due(call + ": status " + what, x.status(what), status[what] + (what == counted ? 1 : 0));
        }
    }

    private static void bad(LastHappened x, String call, LongSupplier answer) {
        refused(x, call, answer, BAD, 0);
    }

    /** A call whose answer is below 0 but is told as none of BAD, NO, FULL. */
    private static void notCounted(LastHappened x, String call, LongSupplier answer, long want) {
        refused(x, call, answer, want, NONE);
    }

    /** Three streets in a row (0-1, 1-2, 2-3) and one apart (5-6); words 4, 4, 9, 4. */
    private static LastHappened row(int law) {
        LastHappened x = new LastHappened();
        x.law(law);
        x.street(0, 1, 3, 4);
        x.street(1, 2, 4, 4);
        x.street(2, 3, 5, 9);
        x.street(5, 6, 1, 4);
        return x;
    }

    private static LastHappened oneStreet(int law) {
        LastHappened x = new LastHappened();
        x.town(law);
        x.street(0, 1, 5, 3);
        return x;
    }

    private static LastHappened fullOfEvents() {
        LastHappened x = oneStreet(0);
        for (int i = 0; i < 8; i++) {
            x.event(0, 0, i, 2, 5, i);
        }
        return x;
    }

    private static void newObject() {
        LastHappened x = new LastHappened();
        for (int what = 0; what < 6; what++) {
            due("count " + what + " of a new object", x.count(what), 0);
        }
        for (int what = 0; what < 3; what++) {
            due("status " + what + " of a new object", x.status(what), 0);
        }
        long h = 911;
        for (int i = 0; i < 6 + 16; i++) {
            h *= 31;
        }
        due("digest of a new object", x.digest(), h);
        for (int word = 0; word < 16; word++) {
            due("rent of a new object", x.rent(word, 0), 0);
        }
        due("from(0) of a new object", x.from(0), NO);
        due("from(1) of a new object", x.from(1), NO);
        due("truly(0) of a new object", x.truly(0), 1);
        due("truly(1) of a new object", x.truly(1), 0);
        due("undo of a new object", x.undo(), NO);
    }

    private static void town() {
        LastHappened x = row(1);
        x.event(0, 0, 0, 2, 0, 1);
        x.rent(3, 50);
        x.rent(0, 60);
        x.reading(0, 0, 1);
        x.image(0);
        long kept = x.digest();
        Calls.type(x, "ab");
        x.town(5);
        due("town(2)", x.town(2), 4);
        due("town: streets", x.count(0), 0);
        due("town: events", x.count(1), 0);
        due("town: law", x.count(2), 2);
        due("town: readings", x.count(3), 0);
        due("town: may be undone", x.count(4), 0);
        due("town: the text stays", x.count(5), 2);
        due("town: status stays", x.status(0), 1);
        due("town: rents", x.rent(3, 0), 0);
        due("town: rent of word 0", x.rent(0, 0), 0);
        due("town(0)", x.town(0), 0);
        x.clear();
        due("town: images stay", x.from(0), 1);
        due("town: images stay whole", x.digest(), kept);
        bad(x, "town(3)", () -> x.town(3));
        bad(x, "town(-1)", () -> x.town(-1));
    }

    private static void street() {
        LastHappened x = new LastHappened();
        for (int i = 0; i < 7; i++) {
            due("street " + i, x.street(i, i + 1, i == 0 ? 1 : 9, 15 - i), i);
        }
        refused(x, "an eighth street", () -> x.street(0, 7, 1, 0), FULL, 2);
        bad(x, "corners alike, ahead of FULL", () -> x.street(3, 3, 1, 0));
        LastHappened y = new LastHappened();
        bad(y, "corners alike", () -> y.street(7, 7, 1, 0));
        bad(y, "corner 8", () -> y.street(8, 0, 1, 0));
        bad(y, "corner -1", () -> y.street(-1, 0, 1, 0));
        bad(y, "other corner 8", () -> y.street(0, 8, 1, 0));
        bad(y, "other corner -1", () -> y.street(0, -1, 1, 0));
        bad(y, "no minutes", () -> y.street(0, 1, 0, 0));
        bad(y, "10 minutes", () -> y.street(0, 1, 10, 0));
        bad(y, "word 16", () -> y.street(0, 1, 1, 16));
        bad(y, "word -1", () -> y.street(0, 1, 1, -1));
        due("the same street twice", y.street(7, 0, 9, 15) + y.street(7, 0, 9, 15), 1);
        due("name of a first street", y.name(0, 0), 115);
        due("name of a second one of that word", y.name(1, 23), 115);
    }

    private static void event() {
        LastHappened x = oneStreet(0);
        bad(x, "kind 6", () -> x.event(6, 0, 0, 0, 0, 0));
        bad(x, "kind -1", () -> x.event(-1, 0, 0, 0, 0, 0));
        bad(x, "street not there", () -> x.event(0, 1, 0, 0, 0, 0));
        bad(x, "street -1", () -> x.event(0, -1, 0, 0, 0, 0));
        bad(x, "hour 24", () -> x.event(0, 0, 24, 0, 0, 0));
        bad(x, "hour -1", () -> x.event(0, 0, -1, 0, 0, 0));
        bad(x, "seen 10", () -> x.event(0, 0, 0, 10, 0, 0));
        bad(x, "seen -1", () -> x.event(0, 0, 0, -1, 0, 0));
        bad(x, "rank 10", () -> x.event(0, 0, 0, 0, 10, 0));
        bad(x, "rank -1", () -> x.event(0, 0, 0, 0, -1, 0));
        bad(x, "word 16", () -> x.event(0, 0, 0, 0, 0, 16));
        bad(x, "word -1", () -> x.event(0, 0, 0, 0, 0, -1));
        due("greatest numbers", x.event(5, 0, 23, 9, 9, 15), 0);
        for (int i = 1; i < 8; i++) {
            due("event " + i, x.event(0, 0, 0, 0, 0, 0), i);
        }
        refused(x, "a ninth event", () -> x.event(0, 0, 0, 0, 0, 0), FULL, 2);
        bad(x, "BAD ahead of FULL", () -> x.event(0, 0, 24, 0, 0, 0));
    }

    private static void back() {
        LastHappened x = fullOfEvents();
        due("back(2)", x.back(2), 7);
        due("those behind it have a number less", x.of(2, 5), 3);
        due("the last one", x.of(6, 5), 7);
        due("those ahead of it stay", x.of(1, 5), 1);
        bad(x, "back(7)", () -> x.back(7));
        bad(x, "back(-1)", () -> x.back(-1));
        due("back(6)", x.back(6), 6);
        due("back(0)", x.back(0), 5);
        due("what is first then", x.of(0, 5), 1);
        due("it may be undone", x.undo(), 6);
        due("the first is there again", x.of(0, 5), 0);
        due("one that comes then is behind all", x.event(0, 0, 0, 2, 9, 15), 6);
        due("and another", x.event(0, 0, 1, 2, 9, 14), 7);
        refused(x, "and no more", () -> x.event(0, 0, 0, 0, 0, 0), FULL, 2);
        for (int left = 7; left >= 0; left--) {
            due("back to " + left, x.back(left % 2 == 0 ? left : 0), left);
        }
        bad(x, "back(0) of none", () -> x.back(0));
        due("the first of none", x.event(0, 0, 0, 0, 0, 0), 0);
    }

    private static void law() {
        LastHappened x = new LastHappened();
        due("law(2)", x.law(2), 0);
        due("law(1)", x.law(1), 2);
        due("law(1) again", x.law(1), 1);
        due("law(0)", x.law(0), 1);
        bad(x, "law(3)", () -> x.law(3));
        bad(x, "law(-1)", () -> x.law(-1));
        due("each may be undone", x.count(4), 4);
    }

    private static void undo() {
        LastHappened x = oneStreet(0);
        x.event(0, 0, 1, 2, 3, 4);
        x.law(2);
        x.law(2);
        x.back(0);
        due("may be undone", x.count(4), 4);
        due("undo of back", x.undo(), 1);
        due("what was taken back", x.of(0, 5), 4);
        due("undo of the same law", x.undo(), 1);
        due("law then", x.count(2), 2);
        due("undo of a law", x.undo(), 1);
        due("law at first", x.count(2), 0);
        due("undo of an event", x.undo(), 0);
        refused(x, "nothing to undo", () -> x.undo(), NO, 1);
        for (int i = 0; i < 10; i++) {
            x.law(i % 3);
        }
        due("8 at most", x.count(4), 8);
        for (int i = 0; i < 8; i++) {
            x.undo();
        }
        due("the law of the second of ten", x.count(2), 1);
        due("not a ninth", x.undo(), NO);
        x.law(0);
        x.rent(1, 1);
        x.reading(0, 0, 0);
        due("rents and readings are not undone", x.count(4), 1);
        x.street(1, 1, 1, 1);
        due("behind a street that is refused it may be", x.count(4), 1);
        x.street(1, 2, 1, 1);
        due("behind a street none may be", x.undo(), NO);
        due("a refused event is not undone", x.event(9, 0, 0, 0, 0, 0) + x.count(4), BAD);
    }

    private static void undoneToTheLetter() {
        LastHappened x = row(1);
        for (int i = 0; i < 8; i++) {
            x.event(i % 6, i % 4, 3 * i, 9 - i, i, 15 - i);
        }
        LastHappened y = row(1);
        for (int i = 0; i < 8; i++) {
            y.event(i % 6, i % 4, 3 * i, 9 - i, i, 15 - i);
        }
        x.back(0);
        x.back(6);
        x.back(2);
        x.law(2);
        for (int i = 0; i < 4; i++) {
            x.undo();
        }
        for (int event = 0; event < 8; event++) {
            for (int what = 0; what < 10; what++) {
                due("undone: of(" + event + ", " + what + ")", x.of(event, what), y.of(event, what));
            }
        }
        due("undone: law", x.count(2), 1);
        due("8 at most, 4 of them undone", x.count(4), 4);
    }

    private static void rent() {
        LastHappened x = new LastHappened();
        due("rent(15, 99)", x.rent(15, 99), 0);
        due("rent(15, 0)", x.rent(15, 0), 99);
        due("rent(15, 5)", x.rent(15, 5), 0);
        due("rent(0, 7)", x.rent(0, 7), 0);
        bad(x, "word 16", () -> x.rent(16, 0));
        bad(x, "word -1", () -> x.rent(-1, 0));
        bad(x, "rent 100", () -> x.rent(0, 100));
        bad(x, "rent -1", () -> x.rent(0, -1));
        due("as it was", x.rent(0, 0), 7);
    }

    private static void typeAndClear() {
        LastHappened x = new LastHappened();
        due("clear() of no text", x.clear(), 0);
        due("type(0)", x.type(0), 1);
        due("type(127)", x.type(127), 2);
        bad(x, "type(128)", () -> x.type(128));
        bad(x, "type(-1)", () -> x.type(-1));
        for (int i = 3; i <= 150; i++) {
            due("type", x.type(' '), i);
        }
        refused(x, "byte 151", () -> x.type(32), FULL, 2);
        bad(x, "BAD ahead of FULL", () -> x.type(128));
        due("bytes", x.count(5), 150);
        due("clear()", x.clear(), 150);
        due("no bytes", x.count(5), 0);
        due("type then", x.type(65), 1);
    }

    private static void fault(String text, int place) {
        LastHappened x = row(1);
        x.event(1, 1, 2, 3, 4, 5);
        x.rent(2, 2);
        x.clear();
        Calls.type(x, text);
        notCounted(x, "read of '" + text + "'", () -> x.read(), -10 - place);
    }

    private static void readTowns() {
        LastHappened x = row(1);
        x.event(0, 0, 0, 2, 0, 1);
        x.rent(3, 50);
        x.reading(0, 0, 1);
        due("read of a town alone", Calls.read(x, "town 2;"), 1);
        due("streets", x.count(0), 0);
        due("law", x.count(2), 2);
        due("no readings", x.count(3), 0);
        due("nothing to undo", x.count(4), 0);
        due("the text stays", x.count(5), 7);
        due("rents not told are 0", x.rent(3, 0), 0);
        String whole = "  town01;street 0 7 9 15 ;street7 1 01 3;event5 1 23 9 08 15;rent 15 99;rent15 98;event 0 0 0 2 0 4; ";
        due("read of a whole town", Calls.read(x, whole), 7);
        due("streets", x.count(0), 2);
        due("events", x.count(1), 2);
        due("nothing to undo, though events came", x.undo(), NO);
        due("kind", x.of(0, 0), 5);
        due("street", x.of(0, 1), 1);
        due("hour", x.of(0, 2), 23);
        due("seen", x.of(0, 3), 9);
        due("rank", x.of(0, 4), 8);
        due("word", x.of(0, 5), 15);
        due("the last rent told", x.rent(15, 1), 98);
        due("minutes", x.round(0, 1), 9);
        due("minutes by two figures", x.round(7, 2), 1);
        due("name", x.name(0, 0), 104);
        due("read once more", x.read(), 7);
        due("as told by the text", x.rent(15, 1), 98);
        due("no blanks where none are needed", Calls.read(x, "town0;street0 1 2 3;rent1 2;"), 3);
        x.image(1);
        Calls.read(x, "town1;");
        due("images stay", x.from(1) + x.count(0), 2);
    }

    private static void readFaults() {
        fault("", 0);
        fault("   ", 3);
        fault(";", 0);
        fault("tow", 0);
        fault("towns 1;", 0);
        fault("townz 1;", 0);
        fault("towna 1;", 0);
        fault("town{ 1;", 4);
        fault("town` 1;", 4);
        fault("town 1/;", 6);
        fault("town 1:;", 6);
        fault("Town 1;", 0);
        fault("street 0 1 1 1;", 0);
        fault("  rent 1 1;", 2);
        fault("town", 4);
        fault("town ", 5);
        fault("town 3;", 5);
        fault("town 00", 7);
        fault("town 002;", 5);
        fault("town 1 2;", 7);
        fault("town x;", 5);
        fault("town 1x;", 6);
        fault("town\t1;", 4);
        fault("town -1;", 5);
        fault("town 1;;", 7);
        fault("town 1;town 1;", 7);
        fault("town 1; 1", 8);
        fault("town 1;road 1 2 3 4;", 7);
        fault("town 1;townstreet 1 2 3 4;", 7);
        fault("town 1;street", 13);
        fault("town 1;street 8 1 1 1;", 14);
        fault("town 1;street 1 8 1 1;", 16);
        fault("town 1;street 1 01 1 1;", 16);
        fault("town 1;street 1 2 0 1;", 18);
        fault("town 1;street 1 2 10 1;", 18);
        fault("town 1;street 1 2 9 16;", 20);
        fault("town 1;street 1 2 9;", 19);
        fault("town 1;street 1 2 9 15", 22);
        fault("town 1;street 1 2 9 15 1;", 23);
        fault("town 1;event 0 0 0 0 0 0;", 15);
        fault("town 1;event 6 0 0 0 0 0;", 13);
        String street = "town 1;street 1 2 9 15;";
        fault(street + "event 0 1 0 0 0 0;", street.length() + 8);
        fault(street + "event 0 0 24 0 0 0;", street.length() + 10);
        fault(street + "event 0 0 023 0 0 0;", street.length() + 10);
        fault(street + "event 0 0 0 10 0 0;", street.length() + 12);
        fault(street + "event 0 0 0 0 10 0;", street.length() + 14);
        fault(street + "event 0 0 0 0 0 16;", street.length() + 16);
        fault(street + "event parade 0 0 0 0 0;", street.length() + 6);
        fault(street + "rent 16 0;", street.length() + 5);
        fault(street + "rent 0 100;", street.length() + 7);
        fault(street + "rent 15 99 ", street.length() + 11);
        String streets = "town 0;" + "street0 1 2 3;".repeat(7);
        due("seven streets", Calls.read(new LastHappened(), streets), 8);
        fault(streets + " street", streets.length() + 1);
        String events = "town0;street0 1 1 1;" + "event0 0 0 0 0 0;".repeat(7);
        due("seven events", Calls.read(new LastHappened(), events), 9);
        fault("town0;street0 1 1 1;" + "event0 0 0 0 0;".repeat(8), 34);
    }

    /** A ninth event does not fit 150 bytes behind eight told whole, so only the eighth can be told. */
    private static void readEightEvents() {
        LastHappened x = new LastHappened();
        String town = "town0;street0 1 1 1;";
        String most = town + "event0 0 0 0 0 0;".repeat(7);
        due("the longest town of seven events", most.length(), 139);
        due("an eighth event begins", Calls.read(x, most + "event0 0 0"), -10 - 149);
        due("the text is as long as can be", x.type(' '), 150);
        due("ends too early", x.read(), -10 - 150);
    }

    private static void of() {
        LastHappened x = row(0);
        int[] needed = {2, 3, 2, 4, 2, 2};
        int[] ranks = {7, 7, 7, 3, 8, 9};
        int[] stands = {3, 3, 9, 3, 3, 18};
        for (int kind = 0; kind < 6; kind++) {
            x.event(kind, 1, 4, 6, 7, 11);
            int[] want = {kind, 1, 4, 6, 7, 11, needed[kind], ranks[kind], stands[kind], kind == 1 ? 7 : 2};
            for (int what = 0; what < 10; what++) {
                due("of(" + kind + ", " + what + ")", x.of(kind, what), want[what]);
            }
        }
        x.event(1, 3, 0, 0, 0, 0);
        due("a parade where no street meets", x.of(6, 9), 8);
        x.event(1, 2, 0, 0, 9, 0);
        due("a parade at the end of the row", x.of(7, 9), 6);
        bad(x, "of(8, 0)", () -> x.of(8, 0));
        bad(x, "of(-1, 0)", () -> x.of(-1, 0));
        bad(x, "of(0, 10)", () -> x.of(0, 10));
        bad(x, "of(0, -1)", () -> x.of(0, -1));
    }

    private static void nameByLaw() {
        for (int law = 0; law < 3; law++) {
            LastHappened x = oneStreet(law);
            x.event(0, 0, 5, 2, 4, 10);
            x.event(0, 0, 6, 2, 3, 11);
            x.event(0, 0, 7, 2, 4, 12);
            due("a lesser rank, law " + law, x.name(0, 6), law == 2 ? 111 : 110);
            due("a like rank, law " + law, x.name(0, 7), law == 1 ? 110 : 112);
            x.event(0, 0, 7, 2, 5, 13);
            due("a greater rank, law " + law, x.name(0, 7), 113);
            due("ahead of all", x.name(0, 4), 103);
        }
        LastHappened x = oneStreet(1);
        x.event(2, 0, 3, 2, 9, 10);
        x.event(0, 0, 11, 2, 0, 11);
        due("it stands yet", x.name(0, 11), 110);
        x.event(0, 0, 12, 2, 0, 12);
        due("the hour till which it stands", x.name(0, 12), 112);
        due("till the end", x.name(0, 23), 112);
        LastHappened y = oneStreet(1);
        y.event(2, 0, 0, 2, 0, 7);
        due("a first name stands till hour 0, whatever was asked ahead", y.name(0, 0), 107);
        due("once more", y.name(0, 0), 107);
        due("its changes", y.changes(0), 1);
        due("its changes once more", y.changes(0), 1);
    }

    private static void nameBySeen() {
        int[] needed = {2, 3, 2, 4, 2, 2};
        for (int kind = 0; kind < 6; kind++) {
            LastHappened x = oneStreet(0);
            x.event(kind, 0, 0, needed[kind] - 1, 9, 7);
            due("not seen by enough, kind " + kind, x.name(0, 0), 103);
            x.event(kind, 0, 23, needed[kind], 9, 8);
            due("seen by enough, kind " + kind, x.name(0, 23), 108);
            due("an hour ahead, kind " + kind, x.name(0, 22), 103);
        }
    }

    private static void nameByNumber() {
        LastHappened x = row(0);
        due("like first names have number 1", x.name(1, 0), 104);
        x.event(0, 2, 5, 2, 0, 4);
        due("one more for each other street of that word", x.name(2, 5), 404);
        x.event(0, 2, 6, 2, 0, 4);
        due("its own word does not count", x.name(2, 6), 404);
        x.event(1, 1, 10, 3, 5, 8);
        due("streets in order, 0", x.name(0, 10), 108);
        due("streets in order, 1", x.name(1, 10), 208);
        due("streets in order, 2", x.name(2, 10), 308);
        due("not where none meets", x.name(3, 10), 104);
        x.event(0, 0, 14, 2, 9, 1);
        x.event(0, 3, 15, 2, 9, 8);
        due("two streets of one name", x.name(3, 15), 308);
        due("two streets of one name", x.name(2, 15), 308);
        x.event(0, 1, 20, 2, 1, 2);
        x.event(0, 0, 20, 2, 1, 2);
        due("events of an hour in order", x.name(1, 20), 102);
        due("events of an hour in order, the second", x.name(0, 20), 202);
        x.event(0, 1, 0, 2, 1, 13);
        due("an event told last that happens first", x.name(1, 0), 113);
        bad(x, "name(4, 0)", () -> x.name(4, 0));
        bad(x, "name(-1, 0)", () -> x.name(-1, 0));
        bad(x, "name(0, 24)", () -> x.name(0, 24));
        bad(x, "name(0, -1)", () -> x.name(0, -1));
    }

    private static void changes() {
        LastHappened x = row(1);
        due("none", x.changes(0), 0);
        x.event(0, 0, 0, 2, 1, 4);
        due("to a like name, too", x.changes(0), 1);
        x.event(0, 0, 1, 2, 1, 4);
        due("not where the law is against it", x.changes(0), 1);
        x.event(1, 1, 23, 3, 0, 5);
        due("in hour 23", x.changes(0), 2);
        due("of the street", x.changes(1), 1);
        due("of another", x.changes(3), 0);
        bad(x, "changes(4)", () -> x.changes(4));
        bad(x, "changes(-1)", () -> x.changes(-1));
    }

    private static void which() {
        LastHappened x = row(0);
        due("first names", x.which(104, 0, 0), 11);
        x.event(0, 1, 10, 2, 0, 7);
        x.event(0, 3, 12, 2, 0, 9);
        due("in one hour", x.which(104, 10, 10), 9);
        due("in some hour", x.which(104, 9, 12), 11);
        due("at the end", x.which(104, 12, 23), 1);
        due("a second number", x.which(209, 0, 23), 8);
        due("a first number", x.which(109, 0, 23), 4);
        due("ahead of it", x.which(107, 0, 9), 0);
        due("a name that no street has", x.which(116, 0, 23), 0);
        due("name 0", x.which(0, 0, 23), 0);
        due("a great name", x.which(Integer.MAX_VALUE, 0, 23), 0);
        bad(x, "a name below 0", () -> x.which(-1, 0, 0));
        bad(x, "b less than a", () -> x.which(104, 1, 0));
        bad(x, "a -1", () -> x.which(104, -1, 0));
        bad(x, "a 24", () -> x.which(104, 24, 24));
        bad(x, "b 24", () -> x.which(104, 0, 24));
    }

    private static void letter() {
        LastHappened x = row(0);
        due("home", x.letter(0, 0, 0), 0);
        due("wrong, to the first of like ones", x.letter(1, 0, 0), 1);
        x.event(0, 0, 10, 2, 0, 7);
        due("home, once the first is called else", x.letter(1, 0, 10), 0);
        due("wrong", x.letter(0, 9, 10), 1);
        due("home by the new name", x.letter(0, 10, 23), 0);
        due("wrong within one hour", x.letter(3, 23, 23), 1);
        x.event(0, 2, 11, 2, 0, 7);
        due("lost", x.letter(2, 10, 11), 2);
        due("home by a second number", x.letter(2, 11, 23), 0);
        bad(x, "b less than a", () -> x.letter(0, 1, 0));
        bad(x, "street 4", () -> x.letter(4, 0, 0));
        bad(x, "street -1", () -> x.letter(-1, 0, 0));
        bad(x, "a -1", () -> x.letter(0, -1, 0));
        bad(x, "b 24", () -> x.letter(0, 0, 24));
    }

    private static void cab() {
        LastHappened x = row(0);
        x.event(0, 1, 10, 2, 0, 9);
        x.event(0, 0, 12, 2, 0, 2);
        due("names of that hour", x.cab(1, 10, 0), 1);
        notCounted(x, "a name that none had then", () -> x.cab(1, 10, 1), NONE);
        due("the first that had it", x.cab(3, 12, 0), 3);
        due("the first that had it then", x.cab(3, 12, 1), 0);
        due("k hours ago to the hour", x.cab(1, 13, 3), 1);
        notCounted(x, "an hour too many", () -> x.cab(1, 13, 4), NONE);
        due("hour 0, if that is earlier", x.cab(3, 3, 23), 0);
        x.event(0, 0, 1, 2, 0, 8);
        due("not hour 1", x.cab(3, 3, 23), 0);
        due("hour 1", x.cab(3, 3, 2), 1);
        bad(x, "k 24", () -> x.cab(0, 23, 24));
        bad(x, "k -1", () -> x.cab(0, 0, -1));
        bad(x, "street 4", () -> x.cab(4, 0, 0));
        bad(x, "street -1", () -> x.cab(-1, 0, 0));
        bad(x, "hour 24", () -> x.cab(0, 24, 0));
        bad(x, "hour -1", () -> x.cab(0, -1, 0));
    }

    private static void find() {
        LastHappened x = row(0);
        due("of like ones the first", x.find(15, 0), 0);
        due("three of one name", x.find(15, 1), 3);
        x.event(0, 0, 10, 2, 0, 7);
        due("the hour", x.find(15, 0), 10);
        due("how many", x.find(15, 1), 2);
        x.event(0, 1, 23, 2, 0, 8);
        due("hour 23", x.find(15, 0), 23);
        due("one each", x.find(15, 1), 1);
        due("some streets alone", x.find(3, 0), 10);
        due("streets of unlike names", x.find(5, 0), 0);
        due("one street", x.find(8, 1), 1);
        due("street 0 alone", x.find(1, 1), 1);
        due("no streets, the hour", x.find(0, 0), 0);
        due("no streets, how many", x.find(0, 1), 0);
        bad(x, "streets 16", () -> x.find(16, 0));
        bad(x, "streets -1", () -> x.find(-1, 0));
        bad(x, "what 2", () -> x.find(15, 2));
        bad(x, "what -1", () -> x.find(15, -1));
    }

    private static void stage() {
        LastHappened x = oneStreet(0);
        due("it has the word", x.stage(0, 3, 23, -1), 0);
        notCounted(x, "no first hour of none", () -> x.stage(0, 3, 23, 0), -5);
        due("one", x.stage(0, 4, 23, -1), 1);
        due("the first hour", x.stage(0, 4, 23, 0), 0);
        notCounted(x, "not so many", () -> x.stage(0, 4, 23, 1), -5);
        notCounted(x, "not so many by far", () -> x.stage(0, 4, 23, Integer.MAX_VALUE), -5);
        x.event(0, 0, 9, 2, 4, 6);
        due("behind a like rank, in its hour", x.stage(0, 4, 9, 0), 9);
        x.event(0, 0, 9, 2, 5, 6);
        notCounted(x, "none where the rank is greater", () -> x.stage(0, 4, 11, -1), NONE);
        notCounted(x, "none, the first hour", () -> x.stage(0, 4, 11, 0), NONE);
        due("when it stands no more", x.stage(0, 4, 12, 0), 12);
        bad10(x, "street 1", () -> x.stage(1, 0, 0, 0));
        bad10(x, "street -1", () -> x.stage(-1, 0, 0, 0));
        bad10(x, "word 16", () -> x.stage(0, 16, 0, 0));
        bad10(x, "word -1", () -> x.stage(0, -1, 0, 0));
        bad10(x, "hour 24", () -> x.stage(0, 0, 24, 0));
        bad10(x, "hour -1", () -> x.stage(0, 0, -1, 0));
        bad10(x, "i -2", () -> x.stage(0, 0, 0, -2));
        stageTwo();
        stageWithoutRoom();
    }

    /** A murder at 2 would stand till 11: only who stages at 0 (till 3) keeps it out, and then wants 5. */
    private static void stageTwo() {
        LastHappened x = oneStreet(1);
        x.event(2, 0, 2, 2, 4, 6);
        x.event(0, 0, 4, 2, 4, 7);
        due("two", x.stage(0, 9, 7, -1), 2);
        due("the first of two", x.stage(0, 9, 7, 0), 0);
        due("the second of two", x.stage(0, 9, 7, 1), 3);
        notCounted(x, "no third", () -> x.stage(0, 9, 7, 2), -5);
        due("one is enough in an hour that the first reaches", x.stage(0, 9, 3, -1), 1);
        LastHappened y = oneStreet(1);
        y.event(2, 0, 6, 2, 4, 6);
        y.event(0, 0, 9, 2, 4, 7);
        due("two, later", y.stage(0, 9, 11, -1), 2);
        due("the first of two, later", y.stage(0, 9, 11, 0), 4);
        due("the second of two, later", y.stage(0, 9, 11, 1), 7);
        for (int i = 0; i < 6; i++) {
            y.event(0, 0, 20, 2, 0, i);
        }
        due("two, whatever room there is", y.stage(0, 9, 11, -1), 2);
        due("the second of two, whatever room there is", y.stage(0, 9, 11, 1), 7);
    }

    private static void stageWithoutRoom() {
        LastHappened x = fullOfEvents();
        due("whatever room there is", x.stage(0, 9, 23, -1), 1);
        due("whatever room there is, the hour", x.stage(0, 9, 23, 0), 10);
        due("nothing is changed by it", x.count(1), 8);
    }

    private static void bad10(LastHappened x, String call, LongSupplier answer) {
        refused(x, call, answer, -10, 0);
    }

    private static void forbid() {
        LastHappened x = oneStreet(0);
        due("nothing has to be", x.forbid(0), 0);
        x.event(0, 0, 1, 2, 0, 5);
        due("one", x.forbid(0), 1);
        x.event(0, 0, 9, 2, 0, 3);
        due("it has its first word again", x.forbid(0), 0);
        x.event(0, 0, 9, 2, 1, 6);
        x.event(0, 0, 10, 2, 1, 3);
        due("by a later one", x.forbid(0), 0);
        x.event(0, 0, 20, 2, 1, 7);
        due("the last alone", x.forbid(0), 16);
        x.event(0, 0, 22, 2, 0, 8);
        due("it comes in when the last is gone", x.forbid(0), 48);
        x.event(0, 0, 23, 2, 9, 8);
        due("one of hour 23, too", x.forbid(0), 48 + 64);
        LastHappened y = oneStreet(0);
        y.event(0, 0, 8, 2, 9, 7);
        y.event(5, 0, 8, 2, 5, 3);
        y.event(0, 0, 20, 2, 5, 3);
        y.event(0, 0, 19, 2, 6, 8);
        due("either 0 or 3: of like ones the least", y.forbid(0), 1);
        LastHappened z = oneStreet(0);
        z.event(0, 0, 4, 2, 9, 5);
        z.event(0, 0, 4, 2, 9, 6);
        z.event(0, 0, 19, 2, 6, 8);
        z.event(5, 0, 5, 2, 5, 3);
        z.event(0, 0, 20, 2, 5, 3);
        due("2 alone, or 0 and 1: the fewest", z.forbid(0), 4);
        bad(y, "street 1", () -> y.forbid(1));
        bad(y, "street -1", () -> y.forbid(-1));
    }

    private static void rents() {
        LastHappened x = oneStreet(0);
        due("no rent", x.rents(0), 0);
        x.rent(3, 99);
        due("hours 0 to 23", x.rents(0), 24 * 99);
        x.event(0, 0, 10, 2, 0, 4);
        due("till hour 9", x.rents(0), 10 * 99);
        x.rent(4, 2);
        due("from hour 10", x.rents(0), 10 * 99 + 14 * 2);
        x.event(0, 0, 23, 2, 0, 5);
        x.rent(5, 1);
        due("in hour 23", x.rents(0), 10 * 99 + 13 * 2 + 1);
        bad(x, "street 1", () -> x.rents(1));
        bad(x, "street -1", () -> x.rents(-1));
    }

    private static void landlords() {
        LastHappened x = row(0);
        due("nothing to win, nothing to pay", x.landlords(0, 2, 0, 0), 15);
        due("nothing to win", x.landlords(0, 2, 0, 1), 1);
        x.rent(9, 10);
        x.rent(12, 10);
        due("only a wins (the word of b is the first of like ones)", x.landlords(0, 2, 0, 10), 2);
        due("only b wins", x.landlords(2, 0, 0, 10), 4);
        due("both win", x.landlords(0, 3, 14, 99), 8);
        due("both lose nothing", x.landlords(0, 3, 22, 20), 15);
        due("an hour later they would lose", x.landlords(0, 3, 23, 20), 1);
        due("one who wins and one to whom it is all one", x.landlords(0, 2, 5, 0), 2 + 8);
        x.event(0, 0, 21, 2, 5, 4);
        due("none can stage against the rank", x.landlords(0, 3, 21, 5), 4);
        due("nothing is changed by it", x.count(1), 1);
        x.rent(4, 9);
        due("who does not stage has his rent, too", x.landlords(0, 2, 0, 50), 1);
        due("who stages has more, but not for that", x.landlords(0, 3, 22, 3), 1);
        due("b has as much either way", x.landlords(0, 3, 22, 2), 1 + 4);
        due("who stages has more", x.landlords(1, 3, 22, 1), 8);
        for (int i = 0; i < 7; i++) {
            x.event(0, 2, 0, 2, 9, 9);
        }
        due("both stage, whatever room there is", x.landlords(1, 3, 22, 1), 8);
        bad(x, "alike", () -> x.landlords(1, 1, 0, 0));
        bad(x, "a 4", () -> x.landlords(4, 0, 0, 0));
        bad(x, "a -1", () -> x.landlords(-1, 0, 0, 0));
        bad(x, "b 4", () -> x.landlords(0, 4, 0, 0));
        bad(x, "b -1", () -> x.landlords(0, -1, 0, 0));
        bad(x, "hour 24", () -> x.landlords(0, 1, 24, 0));
        bad(x, "hour -1", () -> x.landlords(0, 1, -1, 0));
        bad(x, "n 100", () -> x.landlords(0, 1, 0, 100));
        bad(x, "n -1", () -> x.landlords(0, 1, 0, -1));
    }

    private static void round() {
        LastHappened x = row(0);
        due("no streets", x.round(7, 0), 0);
        due("one street", x.round(0, 1), 3);
        due("one street from its other end", x.round(1, 1), 3);
        due("from the middle, the shorter one first", x.round(1, 3), 3 + 3 + 4);
        due("by a street that is not of them", x.round(0, 4), 3 + 4 + 5);
        due("all of the row", x.round(3, 7), 12);
        due("the way to one of them, from behind", x.round(3, 1), 5 + 4 + 3);
        notCounted(x, "none reaches", () -> x.round(0, 8), NONE);
        notCounted(x, "none reaches both", () -> x.round(0, 9), NONE);
        notCounted(x, "none from a corner without streets", () -> x.round(7, 1), NONE);
        x.street(0, 2, 1, 0);
        due("a shorter way between", x.round(0, 4), 1 + 5);
        due("a round", x.round(0, 1 + 2 + 16), 8);
        bad(x, "corner 8", () -> x.round(8, 0));
        bad(x, "corner -1", () -> x.round(-1, 0));
        bad(x, "streets 32", () -> x.round(0, 32));
        bad(x, "streets -1", () -> x.round(0, -1));
        LastHappened star = new LastHappened();
        for (int i = 1; i < 8; i++) {
            star.street(0, i, i, 0);
        }
        due("a star of seven", star.round(0, 127), 2 * 28 - 7);
        due("a star of seven from an end", star.round(7, 127), 2 * 28 - 7 - 6);
    }

    private static void readingAndBurn() {
        LastHappened x = oneStreet(0);
        bad(x, "street 1", () -> x.reading(1, 0, 0));
        bad(x, "street -1", () -> x.reading(-1, 0, 0));
        bad(x, "hour 24", () -> x.reading(0, 24, 0));
        bad(x, "hour -1", () -> x.reading(0, -1, 0));
        bad(x, "word 16", () -> x.reading(0, 0, 16));
        bad(x, "word -1", () -> x.reading(0, 0, -1));
        due("burn() of none", x.burn(), 0);
        for (int i = 0; i < 6; i++) {
            due("reading " + i, x.reading(0, 23, 15), i);
        }
        refused(x, "a seventh reading", () -> x.reading(0, 0, 0), FULL, 2);
        bad(x, "BAD ahead of FULL", () -> x.reading(0, 0, 16));
        due("burn()", x.burn(), 6);
        due("no readings", x.count(3), 0);
        due("a reading then", x.reading(0, 0, 0), 0);
    }

    private static void truly() {
        LastHappened x = oneStreet(0);
        x.event(0, 0, 5, 2, 5, 7);
        x.event(0, 0, 6, 2, 5, 8);
        x.event(0, 0, 7, 1, 5, 9);
        due("no readings", x.truly(0), 8);
        due("in all of them", x.truly(1), 0);
        x.reading(0, 6, 8);
        due("the second happened", x.truly(0), 4);
        due("it is in all of them", x.truly(1), 2);
        x.reading(0, 5, 7);
        due("and the first", x.truly(0), 2);
        due("both are in all of them", x.truly(1), 3);
        x.reading(0, 4, 3);
        due("a reading that is so anyway", x.truly(0), 2);
        x.reading(0, 7, 9);
        due("none: not enough have seen it", x.truly(0), 0);
        notCounted(x, "no set", () -> x.truly(1), NONE);
        refused(x, "truly(2)", () -> x.truly(2), -10, 0);
        refused(x, "truly(-1)", () -> x.truly(-1), -10, 0);
        x.burn();
        x.reading(0, 23, 7);
        due("the second did not happen", x.truly(0), 2);
        due("the first did", x.truly(1), 1);
    }

    private static void drawn() {
        LastHappened x = row(2);
        x.event(0, 0, 1, 2, 0, 7);
        x.event(1, 1, 2, 3, 0, 8);
        x.event(0, 0, 3, 1, 0, 9);
        due("no days", x.drawn(1, 0, 100), 0);
        due("all happen", x.drawn(1, 1, 100), 4);
        due("all happen each day", x.drawn(999999, 30, 100), 120);
        due("none happens", x.drawn(0, 30, 0), 0);
        // from seed 0: 12345 / 65536 is 0, then 1406932606 / 65536 is 21468, then 654583775 / 65536 is 9988
        due("less than w", x.drawn(0, 1, 1), 1);
        due("not less than w", x.drawn(0, 1, 68), 1);
        due("68 is less than 69", x.drawn(0, 1, 69), 4);
        // the second day goes on from there: 1449466924 / 65536 is 22117, then 229283573 / 65536 is 3498
        due("the second day, 17", x.drawn(0, 2, 18), 2);
        due("the second day, 98", x.drawn(0, 2, 99), 8);
        bad(x, "seed 1000000", () -> x.drawn(1000000, 0, 0));
        bad(x, "seed -1", () -> x.drawn(-1, 0, 0));
        bad(x, "n 31", () -> x.drawn(0, 31, 0));
        bad(x, "n -1", () -> x.drawn(0, -1, 0));
        bad(x, "w 101", () -> x.drawn(0, 0, 101));
        bad(x, "w -1", () -> x.drawn(0, 0, -1));
    }

    private static void images() {
        LastHappened x = row(1);
        x.event(1, 1, 5, 3, 2, 6);
        x.back(0);
        x.event(2, 2, 6, 4, 3, 7);
        x.rent(4, 44);
        x.reading(0, 1, 2);
        Calls.type(x, "ab");
        long first = x.digest();
        bad(x, "image(2)", () -> x.image(2));
        bad(x, "image(-1)", () -> x.image(-1));
        bad(x, "from(2)", () -> x.from(2));
        bad(x, "from(-1)", () -> x.from(-1));
        refused(x, "from(1)", () -> x.from(1), NO, 1);
        due("image(1)", x.image(1), 1);
        refused(x, "from(0)", () -> x.from(0), NO, 1);
        Calls.read(x, "town 0;street 0 1 1 1;");
        due("image(0)", x.image(0), 1);
        x.clear();
        Calls.type(x, "cd");
        due("from(1)", x.from(1), 1);
        due("as it was", x.digest(), first);
        due("what may be undone is kept", x.undo(), 0);
        due("undone further", x.undo(), 1);
        due("what was taken back", x.of(0, 5), 6);
        x.undo();
        due("from(1) again", x.from(1), 1);
        due("an image is not changed behind it", x.digest(), first);
        x.clear();
        due("from(0)", x.from(0), 1);
        due("the other one", x.count(0), 1);
        due("the text stays", x.count(5), 0);
        due("status stays", x.status(0) + 10 * x.status(1), 24);
        x.town(2);
        x.image(0);
        x.from(1);
        x.from(0);
        due("an image takes the place of the one ahead", x.count(2), 2);
    }

    private static void status() {
        LastHappened x = new LastHappened();
        x.town(9);
        x.stage(0, 0, 0, 0);
        x.truly(7);
        x.undo();
        x.from(0);
        for (int i = 0; i < 9; i++) {
            x.street(0, 1, 1, 1);
        }
        due("BAD, with those that answer -10", x.status(0), 3);
        due("NO", x.status(1), 2);
        due("FULL", x.status(2), 2);
        refused(x, "status(3)", () -> x.status(3), -1, 0);
        refused(x, "status(-1)", () -> x.status(-1), -1, 0);
        due("another what counts as BAD", x.status(0), 5);
        x.town(0);
        due("it stays with another town", x.status(0), 5);
    }

    private static void count() {
        LastHappened x = row(0);
        x.event(0, 0, 0, 0, 0, 0);
        x.event(0, 0, 0, 0, 0, 0);
        x.law(1);
        x.reading(0, 0, 0);
        Calls.type(x, "abcdefg");
        int[] want = {4, 2, 1, 1, 3, 7};
        for (int what = 0; what < 6; what++) {
            due("count(" + what + ")", x.count(what), want[what]);
        }
        bad(x, "count(6)", () -> x.count(6));
        bad(x, "count(-1)", () -> x.count(-1));
    }

    private static void digest() {
        LastHappened x = new LastHappened();
        x.street(2, 3, 4, 5);
        x.street(6, 7, 8, 9);
        x.event(1, 0, 2, 3, 4, 5);
        x.event(5, 1, 6, 7, 8, 9);
        x.back(0);
        x.law(2);
        x.rent(0, 11);
        x.rent(15, 12);
        x.reading(1, 13, 14);
        Calls.type(x, "xyz");
        int[] v = {2, 1, 2, 1, 4, 3,
            2, 3, 4, 5, 6, 7, 8, 9,
            5, 1, 6, 7, 8, 9,
            11, 0, 0, 0, 0, 0, 0, 0, 0, 0, 0, 0, 0, 0, 0, 12,
            1, 13, 14};
        long h = 911;
        for (int number : v) {
            h = 31 * h + number;
        }
        due("digest()", x.digest(), h);
        due("digest() again", x.digest(), h);
    }

    public static void main(String[] args) {
        Calls.part("promise 1: a new object");
        newObject();
        Calls.part("promise 2: town");
        town();
        Calls.part("promise 3: street");
        street();
        Calls.part("promise 4: event");
        event();
        Calls.part("promise 5: back");
        back();
        Calls.part("promise 6: law");
        law();
        Calls.part("promise 7: undo");
        undo();
        undoneToTheLetter();
        Calls.part("promise 8: rent");
        rent();
        Calls.part("promises 9 and 10: type, clear");
        typeAndClear();
        Calls.part("promise 11: read");
        readTowns();
        readFaults();
        readEightEvents();
        Calls.part("promise 12: of");
        of();
        Calls.part("promise 13: name");
        nameByLaw();
        nameBySeen();
        nameByNumber();
        Calls.part("promise 14: changes");
        changes();
        Calls.part("promise 15: which");
        which();
        Calls.part("promise 16: letter");
        letter();
        Calls.part("promise 17: cab");
        cab();
        Calls.part("promise 18: find");
        find();
        Calls.part("promise 19: stage");
        stage();
        Calls.part("promise 20: forbid");
        forbid();
        Calls.part("promise 21: rents");
        rents();
        Calls.part("promise 22: landlords");
        landlords();
        Calls.part("promise 23: round");
        round();
        Calls.part("promises 24 and 25: reading, burn");
        readingAndBurn();
        Calls.part("promise 26: truly");
        truly();
        Calls.part("promise 27: drawn");
        drawn();
        Calls.part("promises 28 and 29: image, from");
        images();
        Calls.part("promise 30: status");
        status();
        Calls.part("promise 31: count");
        count();
        Calls.part("promise 32: digest");
        digest();
        Calls.finish("promises 1 to 32");
    }
}
