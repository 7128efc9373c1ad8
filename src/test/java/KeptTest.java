import java.math.BigInteger;
import java.util.ArrayList;
import java.util.Arrays;
import java.util.List;
import java.util.function.Consumer;
import java.util.function.LongSupplier;

/** UNDO, IMAGES, STATUS, counts and the digest: what they keep, what they do not, and their edges. */
public final class KeptTest {
    private static final int BAD = -2;
    private static final int NO = -3;
    private static final int FULL = -4;

    private KeptTest() {
    }

    private static void due(String call, long got, long want) {
        Calls.due(call, got, want);
    }

    private static LastHappened street() {
        LastHappened x = new LastHappened();
        x.street(0, 1, 5, 3);
        return x;
    }

    private static void counted(LastHappened x, int bad, int no, int full) {
        int[] want = {bad, no, full};
        due("STATUS " + Arrays.toString(States.status(x)) + " for " + Arrays.toString(want),
            Arrays.equals(want, States.status(x)) ? 1 : 0, 1);
    }

    private static void undoCounts() {
        LastHappened x = street();
        due("none may be undone", x.count(4), 0);
        due("undo()", x.undo(), NO);
        for (int i = 1; i <= 7; i++) {
            x.event(0, 0, i, 2, 0, i);
            due("may be undone", x.count(4), i);
        }
        x.law(0);
        due("eight", x.count(4), 8);
        x.law(0);
        due("eight at most", x.count(4), 8);
        for (int i = 0; i < 20; i++) {
            x.law(i % 3);
            due("eight at most", x.count(4), 8);
        }
        for (int i = 7; i >= 0; i--) {
            due("undo()", x.undo(), 7);
            due("left", x.count(4), i);
        }
        long before = x.digest();
        due("a ninth", x.undo(), NO);
        due("a ninth again", x.undo(), NO);
        counted(x, 0, 3, 0);
        due("it changes nothing", x.digest(), before);
        due("the law of the 13th of 22", x.count(2), 2);
    }

    /** The ninth told puts out the first: the state ahead of the second is the oldest to come back. */
    private static void undoTheOldest() {
        LastHappened x = street();
        x.event(0, 0, 0, 2, 0, 0);
        for (int i = 1; i < 8; i++) {
            x.event(0, 0, i, 2, 0, i);
        }
        x.back(7);
        for (int i = 0; i < 8; i++) {
            due("undo()", x.undo(), i == 0 ? 8 : 8 - i);
        }
        due("the first event stays", x.count(1), 1);
        due("none left", x.undo(), NO);
        due("it is the first", x.of(0, 5), 0);
    }

    private static void undoEach() {
        LastHappened x = street();
        x.event(1, 0, 2, 3, 4, 5);
        x.event(2, 0, 3, 4, 5, 6);
        x.event(3, 0, 4, 5, 6, 7);
        List<Long> digests = new ArrayList<>();
        List<Consumer<LastHappened>> told = List.of(y -> y.back(0), y -> y.law(2), y -> y.back(1), y -> y.law(2),
            y -> y.event(5, 0, 6, 7, 8, 9));
        for (Consumer<LastHappened> each : told) {
            digests.add(x.digest());
            each.accept(x);
        }
        due("all may be undone", x.count(4), 8);
        for (int i = told.size() - 1; i >= 0; i--) {
            x.undo();
            due("as ahead of what was told " + i, x.digest(), digests.get(i));
        }
        int[] event = {1, 0, 2, 3, 4, 5};
        for (int what = 0; what < 6; what++) {
            due("the one taken back is in its place", x.of(0, what), event[what]);
        }
        due("the law of ahead", x.count(2), 0);
        x.law(1);
        x.event(0, 0, 0, 0, 0, 0);
        x.undo();
        due("undo of an event leaves the law", x.count(2), 1);
        x.undo();
        due("undo of the law brings back the law", x.count(2), 0);
    }

    private static void undoForgets() {
        LastHappened x = street();
        x.event(0, 0, 0, 2, 0, 7);
        x.law(1);
        due("corners alike", x.street(1, 1, 1, 1), BAD);
        due("a refused street leaves it", x.count(4), 2);
        due("a rent leaves it", x.rent(0, 5) + x.count(4), 2);
        due("a reading leaves it", x.reading(0, 0, 0) + x.count(4), 2);
        due("burn leaves it", x.burn() + x.count(4), 1 + 2);
        due("a refused town leaves it", x.town(3) + x.count(4), BAD + 2);
        due("a refused event is none", x.event(0, 1, 0, 0, 0, 0) + x.count(4), BAD + 2);
        due("a refused back is none", x.back(1) + x.count(4), BAD + 2);
        due("a refused law is none", x.law(3) + x.count(4), BAD + 2);
        due("a fault leaves it", x.read() + x.count(4), -10 + 2);
        due("a street", x.street(1, 2, 1, 1), 1);
        due("behind a street none", x.count(4), 0);
        due("behind a street none", x.undo(), NO);
        due("the events stay", x.count(1), 1);
        x.law(2);
        due("behind that it may be again", x.undo(), 1);
        x.law(2);
        x.town(0);
        due("behind a town none", x.undo(), NO);
        x.law(2);
        Calls.read(x, "town 1;street 0 1 1 1;event 0 0 0 0 0 0;");
        due("behind a text none", x.undo(), NO);
        for (int i = 0; i < 6; i++) {
            x.street(i, 7, 1, i);
        }
        for (int i = 0; i < 7; i++) {
            x.event(0, 0, 0, 0, 0, 0);
        }
        due("a ninth event", x.event(0, 0, 0, 0, 0, 0), FULL);
        due("is not to be undone", x.count(4), 7);
        due("an eighth street", x.street(0, 1, 1, 1), FULL);
        due("leaves what may be undone", x.count(4), 7);
    }

    /** What is not undone: rents, readings, the text, images, STATUS. */
    private static void undoLeaves() {
        LastHappened x = street();
        x.event(0, 0, 0, 2, 0, 7);
        x.rent(3, 4);
        x.reading(0, 1, 2);
        x.type(65);
        x.image(1);
        x.law(9);
        x.undo();
        due("rents", x.rent(3, 4), 4);
        due("readings", x.count(3), 1);
        due("the text", x.count(5), 1);
        due("status", x.status(0), 1);
        due("streets", x.count(0), 1);
        due("images", x.from(1), 1);
        due("its event", x.count(1), 1);
    }

    private static void images() {
        LastHappened x = new LastHappened();
        due("none was kept", x.from(0), NO);
        due("none was kept", x.from(1), NO);
        due("image(2)", x.image(2), BAD);
        due("from(2) ahead of NO", x.from(2), BAD);
        counted(x, 2, 2, 0);
        due("an image of a new object", x.image(0), 1);
        due("the other was not kept", x.from(1), NO);
        x.street(0, 1, 1, 1);
        due("back to the new one", x.from(0), 1);
        due("it has no streets", x.count(0), 0);
        counted(x, 2, 3, 0);
    }

    /** Each part of a town is kept; the text, STATUS and the other image are not. */
    private static void whatImagesKeep() {
        for (int i = 0; i < 2; i++) {
            LastHappened x = States.made(States.SMALL);
            x.image(1 - i);
            x.street(5, 6, 7, 8);
            x.event(2, 1, 3, 4, 5, 6);
            x.law(2);
            x.rent(9, 90);
            x.reading(1, 2, 3);
            x.image(i);
            long kept = x.digest();
            x.undo();
            x.undo();
            x.rent(9, 91);
            x.burn();
            x.street(0, 1, 1, 1);
            x.town(1);
            due("from(" + i + ")", x.from(i), 1);
            due("as it was", x.digest(), kept);
            due("what may be undone", x.count(4), 2);
            due("undo()", x.undo(), 2);
            due("undo()", x.undo(), 1);
            due("no more", x.undo(), NO);
            x.type(66);
            x.law(7);
            due("from(" + i + ") again", x.from(i), 1);
            due("as it was, with one byte more", x.digest(), digestWithText(kept, x, 1, 2));
            counted(x, 1, 1, 0);
            due("the other image", x.from(1 - i), 1);
            due("has one street", x.count(0), 1);
            due("and one event", x.count(1), 1);
            due("its law", x.count(2), 0);
        }
    }

    /** The digest as it would be with another count of bytes: it stands ahead of all but the other counts. */
    private static long digestWithText(long digest, LastHappened x, int was, int is) {
        int behind = 4 * x.count(0) + 6 * x.count(1) + 16 + 3 * x.count(3);
        long weight = 1;
        for (int i = 0; i < behind; i++) {
            weight *= 31;
        }
        return digest + weight * (is - was);
    }

    private static void imagesSurvive() {
        LastHappened x = street();
        x.event(0, 0, 0, 2, 0, 7);
        x.image(0);
        long kept = x.digest();
        x.town(2);
        due("behind a town", x.from(0), 1);
        due("as it was", x.digest(), kept);
        Calls.read(x, "town 2;");
        x.clear();
        due("behind a text", x.from(0), 1);
        due("as it was", x.digest(), kept);
        x.undo();
        due("behind undo", x.from(0), 1);
        due("as it was", x.digest(), kept);
        x.law(2);
        x.image(0);
        due("kept again", x.from(0), 1);
        due("in the place of the one ahead", x.count(2), 2);
    }

    private static void status() {
        LastHappened x = new LastHappened();
        counted(x, 0, 0, 0);
        due("status(3)", x.status(3), -1);
        counted(x, 1, 0, 0);
        due("status(-1)", x.status(-1), -1);
        due("the least int", x.status(Integer.MIN_VALUE), -1);
        due("the greatest int", x.status(Integer.MAX_VALUE), -1);
        counted(x, 4, 0, 0);
        x.undo();
        x.from(0);
        counted(x, 4, 2, 0);
        for (int i = 0; i < 9; i++) {
            x.street(i % 7, 7, 1, 1);
        }
        counted(x, 4, 2, 2);
        for (int i = 0; i < 9; i++) {
            x.event(0, 0, 0, 0, 0, 0);
        }
        counted(x, 4, 2, 3);
        for (int i = 0; i < 7; i++) {
            x.reading(0, 0, 0);
        }
        counted(x, 4, 2, 4);
        for (int i = 0; i < 151; i++) {
            x.type(32);
        }
        counted(x, 4, 2, 5);
        x.street(8, 0, 1, 1);
        x.event(0, 7, 0, 0, 0, 0);
        x.reading(7, 0, 0);
        x.type(-1);
        x.from(-1);
        counted(x, 9, 2, 5);
        x.stage(0, 0, 24, 0);
        x.truly(3);
        x.count(6);
        counted(x, 12, 2, 5);
        x.town(0);
        x.image(0);
        x.from(0);
        x.clear();
        Calls.read(x, "town 0;");
        counted(x, 12, 2, 5);
    }

    private static void answersThatAreNotCounted() {
        LastHappened x = street();
        x.event(0, 0, 2, 2, 9, 7);
        List<LongSupplier> calls = List.of(() -> x.stage(0, 3, 0, 0), () -> x.stage(0, 9, 3, 0), () -> x.cab(0, 2, 1),
            () -> x.round(5, 1), () -> x.read(), () -> x.letter(0, 0, 2), () -> x.which(0, 0, 0));
        long[] want = {-5, -1, -1, -1, -10, 2, 0};
        for (int i = 0; i < want.length; i++) {
            due("answer " + i, calls.get(i).getAsLong(), want[i]);
            counted(x, 0, 0, 0);
        }
    }

    /** Where two refusals could be told it is the first of BAD, NO, FULL. */
    private static void theFirstOf() {
        LastHappened x = States.made(States.FULL);
        due("street: corners alike", x.street(3, 3, 1, 1), BAD);
        due("street: no minutes", x.street(3, 4, 0, 1), BAD);
        due("event: a kind that is none", x.event(6, 0, 0, 0, 0, 0), BAD);
        due("event: a street that is none", x.event(0, 7, 0, 0, 0, 0), BAD);
        due("reading: a street that is none", x.reading(7, 0, 0), BAD);
        due("type: a byte that is none", x.type(128), BAD);
        counted(x, 6, 0, 0);
        due("street", x.street(3, 4, 1, 1), FULL);
        due("event", x.event(0, 0, 0, 0, 0, 0), FULL);
        due("reading", x.reading(0, 0, 0), FULL);
        due("type", x.type(127), FULL);
        counted(x, 6, 0, 4);
        due("from: an image that is none", x.from(2), BAD);
        due("from: not kept", x.from(1), NO);
        counted(x, 7, 1, 4);
    }

    private static void town() {
        for (int law = 0; law < 3; law++) {
            for (String state : States.ALL) {
                LastHappened x = States.made(state);
                int streets = x.count(0);
                int bytes = x.count(5);
                due("town(" + law + ") of a " + state + " one", x.town(law), streets);
                due("its law", x.count(2), law);
                due("the text stays", x.count(5), bytes);
                x.clear();
                LastHappened y = new LastHappened();
                y.town(law);
                due("else as a new one", x.digest(), y.digest());
                due("nothing to undo", x.undo(), NO);
                due("an image stays", x.from(state.equals(States.FULL) ? 0 : 1), state.equals(States.NEW) ? NO : 1);
            }
        }
    }

    private static void counts() {
        LastHappened x = new LastHappened();
        for (int what = 0; what < 6; what++) {
            due("count(" + what + ") at first", x.count(what), 0);
        }
        int[] small = {1, 1, 0, 1, 1, 1};
        int[] full = {7, 8, 0, 6, 8, 150};
        for (int what = 0; what < 6; what++) {
            due("count(" + what + ") of a small one", States.made(States.SMALL).count(what), small[what]);
            due("count(" + what + ") of a full one", States.made(States.FULL).count(what), full[what]);
        }
    }

    private static long sum(int... values) {
        BigInteger h = BigInteger.valueOf(911);
        for (int v : values) {
            h = h.multiply(BigInteger.valueOf(31)).add(BigInteger.valueOf(v));
        }
        return h.longValue();
    }

    private static void digest() {
        due("of a new one, whose sum goes past the greatest long", new LastHappened().digest(), sum(new int[22]));
        LastHappened x = new LastHappened();
        x.town(2);
        x.street(7, 6, 5, 4);
        x.event(5, 0, 23, 9, 8, 15);
        x.reading(0, 22, 14);
        for (int word = 0; word < 16; word++) {
            x.rent(word, 99 - word);
        }
        x.type(127);
        x.type(0);
        due("counts, streets, events, rents, readings", x.digest(), sum(1, 1, 2, 1, 1, 2, 7, 6, 5, 4, 5, 0, 23, 9, 8, 15,
            99, 98, 97, 96, 95, 94, 93, 92, 91, 90, 89, 88, 87, 86, 85, 84, 0, 22, 14));
        due("a byte's number does not matter", same(x, y -> y.clear(), y -> Calls.type(y, "zz")), 1);
        due("STATUS does not matter", same(x, y -> y.law(8), y -> y.status(9)), 1);
        due("images do not matter", same(x, y -> y.image(0), y -> y.image(1)), 1);
        due("readings matter", same(x, y -> y.burn(), y -> y.reading(0, 21, 14)), 0);
    }

    private static int same(LastHappened x, Consumer<LastHappened> first, Consumer<LastHappened> second) {
        long before = x.digest();
        first.accept(x);
        second.accept(x);
        return before == x.digest() ? 1 : 0;
    }

    /** All that a digest is made of in a town without room: 6 + 28 + 48 + 16 + 18 numbers. */
    private static void digestOfAFullOne() {
        LastHappened x = new LastHappened();
        int[] v = new int[116];
        int n = 0;
        for (int what : new int[] {7, 8, 0, 6, 8, 150}) {
            v[n++] = what;
        }
        for (int i = 0; i < 7; i++) {
            int[] street = {7 - i, 6 - i, 9 - i, 15 - i};
            x.street(street[0], street[1], street[2], street[3]);
            n = put(v, n, street);
        }
        for (int i = 0; i < 8; i++) {
            int[] event = {i % 6, 6 - i % 7, 23 - i, 9 - i, i, 15 - i};
            x.event(event[0], event[1], event[2], event[3], event[4], event[5]);
            n = put(v, n, event);
        }
        for (int word = 0; word < 16; word++) {
            x.rent(word, 6 * word);
            v[n++] = 6 * word;
        }
        for (int i = 0; i < 6; i++) {
            int[] reading = {6 - i, 23 - i, 15 - i};
            x.reading(reading[0], reading[1], reading[2]);
            n = put(v, n, reading);
        }
        for (int i = 0; i < 150; i++) {
            x.type(i % 128);
        }
        due("so many numbers", n, 116);
        due("a full one", x.digest(), sum(v));
        due("asked again", x.digest(), sum(v));
    }

    private static int put(int[] v, int at, int[] more) {
        System.arraycopy(more, 0, v, at, more.length);
        return at + more.length;
    }

    public static void main(String[] args) {
        Calls.part("UNDO: none, 8 at most, the same law");
        undoCounts();
        undoTheOldest();
        Calls.part("UNDO: as ahead of an event told, one taken back, a law");
        undoEach();
        Calls.part("UNDO: behind a street, a town, a text none; what is refused is none");
        undoForgets();
        Calls.part("UNDO: what it leaves");
        undoLeaves();
        Calls.part("IMAGES 0 and 1, none kept");
        images();
        Calls.part("IMAGES: what they keep, what they do not");
        whatImagesKeep();
        imagesSurvive();
        Calls.part("STATUS: BAD, NO, FULL, each for itself");
        status();
        Calls.part("STATUS: answers below 0 that are no refusals");
        answersThatAreNotCounted();
        Calls.part("refused, the first of BAD, NO, FULL");
        theFirstOf();
        Calls.part("a town: all else as at first");
        town();
        Calls.part("counts, of a new, a small and a full one");
        counts();
        Calls.part("the digest, over its wrap-around");
        digest();
        digestOfAFullOne();
        Calls.finish("what is kept and counted");
    }
}
