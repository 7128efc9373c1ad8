import java.util.Arrays;

/**
 * The text: its bytes, its tokens, each fault by the place of its first byte, and what a town that is
 * read takes the place of. A fault changes nothing and is not counted.
 */
public final class TextTest {
    private static final String STREET = "town 1;street 1 2 9 15;";
    /** One byte of every sort, and those next to a sort's edges. */
    private static final int[] BYTES = {0, 9, 10, 31, ' ', '!', '/', '0', '1', '9', ':', ';', '<', '@', 'A', 'Z', '`', 'a',
        'e', 'n', 't', 'z', '{', 127};

    private TextTest() {
    }

    private static void due(String call, long got, long want) {
        Calls.due(call, got, want);
    }

    /** A town of its own, images and something to undo, which a fault has to leave. */
    private static LastHappened kept() {
        LastHappened x = new LastHappened();
        x.street(0, 1, 3, 4);
        x.image(1);
        x.law(2);
        x.event(1, 0, 2, 3, 4, 5);
        x.reading(0, 2, 5);
        x.rent(2, 2);
        return x;
    }

    private static void fault(String text, int place) {
        String told = "read of '" + text + "'";
        LastHappened x = kept();
        Calls.type(x, text);
        int[] status = States.status(x);
        due(told, x.read(), -10 - place);
        due(told + ": status stays", Arrays.equals(status, States.status(x)) ? 1 : 0, 1);
        due(told + ": the text stays", x.read(), -10 - place);
        due(told + ": its bytes", x.count(5), text.length());
        LastHappened y = kept();
        Calls.type(y, text);
        due(told + ": all stays", Arrays.mismatch(States.seen(x), States.seen(y)), -1);
    }

    private static void reads(String text, int items) {
        due("read of '" + text + "'", Calls.read(kept(), text), items);
    }

    private static void bytes() {
        LastHappened x = new LastHappened();
        for (int c = 0; c < 128; c++) {
            due("byte " + c, x.type(c), c + 1);
        }
        for (int i = 129; i <= 150; i++) {
            due("byte number " + i, x.type(32), i);
        }
        int[] status = States.status(x);
        long before = x.digest();
        due("byte number 151", x.type(32), -4);
        due("byte number 151 again", x.type(0), -4);
        due("128 ahead of FULL", x.type(128), -2);
        due("both FULL are counted", x.status(2), status[2] + 2);
        due("BAD is counted", x.status(0), status[0] + 1);
        due("nothing else has changed", x.digest(), before);
        due("clear() of a full text", x.clear(), 150);
        due("clear() of an empty one", x.clear(), 0);
        due("type() then", x.type(127), 1);
    }

    private static void longest() {
        LastHappened x = kept();
        Calls.type(x, States.LONGEST);
        due("a text of 150 bytes", x.count(5), 150);
        due("is read", x.read(), 6);
        due("its rent", x.rent(15, 0), 99);
        LastHappened y = kept();
        Calls.type(y, " ".repeat(143) + "town 0;");
        due("a text of 150 bytes, with its item at the end", y.read(), 1);
        LastHappened z = kept();
        Calls.type(z, " ".repeat(144) + "town 0;");
        due("a text whose last byte does not fit", z.read(), -10 - 150);
        fault(" ".repeat(150), 150);
    }

    private static void cutOff() {
        String text = "town 2;rent 15 99;";
        int[] want = {-10, -10, -10, -10, -14, -15, -16, 1, -17, -17, -17, -21, -22, -23, -24, -25, -26, -27, 2};
        for (int end = 0; end <= text.length(); end++) {
            due("read of '" + text.substring(0, end) + "'", Calls.read(kept(), text.substring(0, end)), want[end]);
        }
        fault("", 0);
        fault(" ", 1);
        fault("town", 4);
        fault("town 2", 6);
        fault("town 2 ", 7);
        fault("town 2;rent 15 99", 17);
        fault("town 2;street 0 1 2", 19);
        fault("town 2;street 0 1 2   ", 22);
    }

    private static void townFirst() {
        fault("rent 1 1;town 0;", 0);
        fault("street 0 1 1 1;", 0);
        fault("  event 0 0 0 0 0 0;", 2);
        fault(";town 0;", 0);
        fault("1 town 0;", 0);
        fault("town 0;town 0;", 7);
        fault("town 0; rent 1 1; town 0;", 18);
        reads("town 0;", 1);
        reads("town 1;", 1);
        reads("town 2;", 1);
        fault("town 3;", 5);
    }

    private static void words() {
        for (String word : new String[] {"tow", "towns", "rown", "a", "z", "law", "road", "townstreet", "nwot"}) {
            fault(word + " 0;", 0);
        }
        for (String word : new String[] {"stree", "streets", "even", "events", "ren", "rents", "parade", "town", "x"}) {
            fault("town 0;" + word, 7);
            fault("town 0; " + word + " 0 1 1 1;", 8);
        }
        fault(STREET + "event plain 0 0 0 0 0;", STREET.length() + 6);
        fault("town zero;", 5);
        fault("town 0;rent 1 rent;", 14);
        fault("town 0;rentrent 1 1;", 7);
        fault("town 0;rent rent 1 1;", 12);
    }

    private static void figures() {
        reads("town 02;", 1);
        reads("town 0;rent 00 00;rent 09 01;", 3);
        fault("town 002;", 5);
        fault("town 000;", 5);
        fault("town 0000000000000000000000000000000000;", 5);
        fault("town 0;rent 015 1;", 12);
        fault("town 0;rent 15 100;", 15);
        fault("town 0;rent 1 4294967297;", 14);
        fault("town 0;rent 15", 14);
        fault("town 0;rent 151;", 12);
        fault("town 0;rent 15 1 1;", 17);
        fault("town 0;rent 15 1 111;", 17);
        fault("town 0;111 1;", 7);
        fault("town 0;rent 15;", 14);
        fault("town;", 4);
        fault("town 0;rent -1 1;", 12);
        fault("town 0;rent +1 1;", 12);
    }

    private static void numbersNotAsTold() {
        reads("town 0;street 0 7 1 0;street 7 0 9 15;", 3);
        fault("town 0;street 8 1 1 1;", 14);
        fault("town 0;street 1 8 1 1;", 16);
        fault("town 0;street 1 2 0 1;", 18);
        fault("town 0;street 1 2 10 1;", 18);
        fault("town 0;street 1 2 9 16;", 20);
        fault("town 0;street 99 1 1 1;", 14);
        reads(STREET + "event 0 0 0 0 0 0;event 5 0 23 9 9 15;", 4);
        fault(STREET + "event 6 0 0 0 0 0;", STREET.length() + 6);
        fault(STREET + "event 5 0 24 0 0 0;", STREET.length() + 10);
        fault(STREET + "event 5 0 23 10 0 0;", STREET.length() + 13);
        fault(STREET + "event 5 0 23 9 10 0;", STREET.length() + 15);
        fault(STREET + "event 5 0 23 9 9 16;", STREET.length() + 17);
        reads("town 0;rent 0 0;rent 15 99;", 3);
        fault("town 0;rent 16 0;", 12);
        fault("town 0;rent 99 0;", 12);
    }

    private static void cornersAlike() {
        fault("town 0;street 0 0 1 1;", 16);
        fault("town 0;street 7 7 1 1;", 16);
        fault("town 0;street 01 1 1 1;", 17);
        fault("town 0;street 1 01 1 1;", 16);
        fault("town 0;street 3 3", 16);
    }

    private static void streetsNotThereYet() {
        fault("town 0;event 0 0 0 0 0 0;", 15);
        fault("town 0;event 0 0 0 0 0 0;street 0 1 1 1;", 15);
        fault(STREET + "event 0 1 0 0 0 0;", STREET.length() + 8);
        fault(STREET + "event 0 1 0 0 0 0;street 1 2 1 1;", STREET.length() + 8);
        reads(STREET + "street 1 2 1 1;event 0 1 0 0 0 0;", 4);
        fault(STREET + "event 0 6 0 0 0 0;", STREET.length() + 8);
    }

    private static void eighthStreet() {
        String seven = "town 0;" + "street0 1 2 3;".repeat(7);
        reads(seven, 8);
        reads(seven + " rent 1 2 ;", 9);
        fault(seven + "street 0 1 2 3;", seven.length());
        fault(seven + "street", seven.length());
        fault(seven + "  street 9", seven.length() + 2);
        fault(seven + "stree", seven.length());
        reads(seven + "event 0 6 0 0 0 0;", 9);
        fault(seven + "event 0 7 0 0 0 0;", seven.length() + 8);
    }

    /** Eight events told whole behind a town and a street take 156 bytes, so no ninth one can be told. */
    private static void eighthEvent() {
        String seven = "town0;street0 1 1 1;" + "event0 0 0 0 0 0;".repeat(7);
        reads(seven, 9);
        fault(seven + "event0 0 0", 149);
        fault(seven + "event0 0 0 ", 150);
        fault(seven + "event0 1 0", 146);
    }

    private static void blanks() {
        reads("   town   1   ;   rent   1   1   ;   ", 2);
        reads("town1;street0 1 1 1;event0 0 0 0 0 0;rent1 1;", 4);
        reads("town 1 ; rent 1 1 ; ", 2);
        fault("to wn 1;", 0);
        fault("town 1 1;", 7);
        fault("town 0;rent 1 1 ; ; ", 18);
        fault("town 1;rent 11;", 14);
        fault("town 1;street 01 2 1;", 20);
        fault("town\t1;", 4);
        fault("town 1;\n", 7);
        fault("town 1;" + (char) 0, 7);
    }

    /** Every byte ahead of a text, between its word and its number, and behind it. */
    private static void everyByte() {
        for (int c = 0; c < 128; c++) {
            boolean isLetter = c >= 'a' && c <= 'z';
            boolean isFigure = c >= '0' && c <= '9';
            due("byte " + c + " ahead", Calls.read(kept(), (char) c + "town 1;"), c == ' ' ? 1 : -10);
            due("byte " + c + " behind", Calls.read(kept(), "town 1;" + (char) c), c == ' ' ? 1 : -17);
            due("byte " + c + " instead of a blank", Calls.read(kept(), "town" + (char) c + "1;"),
                c == ' ' || c == '0' ? 1 : isLetter ? -10 : -14);
            due("byte " + c + " instead of a number", Calls.read(kept(), "town " + (char) c + ";"),
                c >= '0' && c <= '2' ? 1 : c == ' ' ? -16 : -15);
            due("byte " + c + " behind a number", Calls.read(kept(), "town 1" + (char) c + ";"),
                c == ' ' ? 1 : isFigure ? -15 : c == ';' ? -17 : -16);
            due("byte " + c + " instead of ;", Calls.read(kept(), "town 1" + (char) c),
                c == ';' ? 1 : isFigure ? -15 : c == ' ' ? -17 : -16);
        }
    }

    /** Bytes of every sort put in, put in another's place, and left out, at each place: held against the model. */
    private static void everyPlace() {
        String text = " town1 ;street 0 7 9 15; event 4 00 23 2 9 3;rent 15 99;rent0 1;event1 0 1 3 4 5 ;";
        for (int place = 0; place <= text.length(); place++) {
            sameAsModel(text.substring(0, place));
            for (int c : BYTES) {
                sameAsModel(text.substring(0, place) + (char) c + text.substring(place));
                if (place < text.length()) {
                    sameAsModel(text.substring(0, place) + (char) c + text.substring(place + 1));
                }
            }
            if (place < text.length()) {
                sameAsModel(text.substring(0, place) + text.substring(place + 1));
            }
        }
    }

    private static void sameAsModel(String text) {
        LastHappened x = new LastHappened();
        Model m = new Model();
        Calls.type(x, text);
        for (int i = 0; i < text.length(); i++) {
            m.call("type", text.charAt(i));
        }
        due("read of '" + text + "'", x.read(), m.call("read"));
        due("digest behind '" + text + "'", x.digest(), m.call("digest"));
    }

    private static void whatIsReplaced() {
        LastHappened x = kept();
        due("something may be undone ahead", x.count(4), 2);
        due("something is refused ahead", x.town(7), -2);
        due("read of a town", Calls.read(x, "town 1;street 5 6 7 8;event 2 0 3 4 5 6;rent 1 11;"), 4);
        int[] counts = {1, 1, 1, 0, 0, 50};
        for (int what = 0; what < 6; what++) {
            due("count(" + what + ")", x.count(what), counts[what]);
        }
        int[] event = {2, 0, 3, 4, 5, 6};
        for (int what = 0; what < 6; what++) {
            due("of(0, " + what + ")", x.of(0, what), event[what]);
        }
        due("its street", x.name(0, 0), 108);
        due("from corner 5", x.round(5, 1), 7);
        due("to corner 6", x.round(6, 1), 7);
        due("to no other corner", x.round(0, 1), -1);
        due("rents not told are 0", x.rent(2, 0), 0);
        due("the rent told", x.rent(1, 0), 11);
        due("nothing to undo", x.undo(), -3);
        due("status stays", x.status(0), 1);
        due("images stay", x.from(1), 1);
        due("as they were", x.count(0) + 10 * x.count(1) + 100 * x.count(2), 1);
        due("read of no more than a town", Calls.read(x, "town 2;"), 1);
        due("no streets then", x.count(0), 0);
        due("its law", x.count(2), 2);
        due("the last rent told", Calls.read(x, "town 0;rent 3 5;rent 3 6;rent 3 7;"), 4);
        due("is the rent", x.rent(3, 0), 7);
    }

    public static void main(String[] args) {
        Calls.part("THE TEXT: bytes 0 to 127, 150 at most");
        bytes();
        Calls.part("THE TEXT: as long as can be");
        longest();
        Calls.part("FAULT: the text ends too early (an empty one, too)");
        cutOff();
        Calls.part("FAULT: town again, anything ahead of it");
        townFirst();
        Calls.part("FAULT: a word that is none");
        words();
        Calls.part("FAULT: figures, a run of three or more, at its first one");
        figures();
        Calls.part("FAULT: a number not as told");
        numbersNotAsTold();
        Calls.part("FAULT: two corners alike");
        cornersAlike();
        Calls.part("FAULT: a street that is not there yet");
        streetsNotThereYet();
        Calls.part("FAULT: an eighth street, at its word");
        eighthStreet();
        Calls.part("as many events as can be told");
        eighthEvent();
        Calls.part("TOKENS: blanks, needed only between two words, two numbers");
        blanks();
        Calls.part("FAULT: a byte that begins no token, every byte");
        everyByte();
        Calls.part("TOKENS and FAULTS at every place of a text");
        everyPlace();
        Calls.part("what a town that is read takes the place of");
        whatIsReplaced();
        Calls.finish("the text");
    }
}
