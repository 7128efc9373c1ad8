/**
 * Kinds, and when a street is renamed: every kind with every rank, how many have seen it, every hour
 * up to the one till which a name stands, every law; numbers of names; what an hour's names are.
 */
public final class RenamingTest {
    private static final int PLAIN = 0;
    private static final int PARADE = 1;
    private static final int MURDER = 2;
    private static final int STAGED = 3;
    private static final int BIRTH = 4;
    private static final int TRIAL = 5;

    private static final int[] NEEDED = {2, 3, 2, 4, 2, 2};
    private static final int[] STANDS = {3, 3, 9, 3, 3, 18};
    private static final int[][] GIVEN = {
        {0, 1, 2, 3, 4, 5, 6, 7, 8, 9},
        {0, 1, 2, 3, 4, 5, 6, 7, 8, 9},
        {0, 1, 2, 3, 4, 5, 6, 7, 8, 9},
        {0, 0, 1, 1, 2, 2, 3, 3, 4, 4},
        {1, 2, 3, 4, 5, 6, 7, 8, 9, 10},
        {2, 3, 4, 5, 6, 7, 8, 9, 10, 11}};

    private RenamingTest() {
    }

    private static void due(String call, long got, long want) {
        Calls.due(call, got, want);
    }

    /** One street, called 103 at first. */
    private static LastHappened street(int law) {
        LastHappened x = new LastHappened();
        anew(x, law);
        return x;
    }

    private static void anew(LastHappened x, int law) {
        x.town(law);
        x.street(0, 1, 5, 3);
    }

    /** So many streets that all meet in corner 0, of one word at first. */
    private static LastHappened star(int streets, int word) {
        LastHappened x = new LastHappened();
        for (int i = 0; i < streets; i++) {
            x.street(i % 2 == 0 ? 0 : i + 1, i % 2 == 0 ? i + 1 : 0, 1, word);
        }
        return x;
    }

    private static void kinds() {
        for (int kind = 0; kind < 6; kind++) {
            for (int rank = 0; rank < 10; rank++) {
                LastHappened x = street(0);
                x.event(kind, 0, 0, 0, rank, 0);
                String told = "kind " + kind + ", rank " + rank;
                due(told + ": must have seen it", x.of(0, 6), NEEDED[kind]);
                due(told + ": of which rank", x.of(0, 7), GIVEN[kind][rank]);
                due(told + ": the rank told stays", x.of(0, 4), rank);
                due(told + ": hours", x.of(0, 8), STANDS[kind]);
                due(told + ": where", x.of(0, 9), 1);
            }
        }
    }

    /** Streets 0 to 6: 0-1, 1-2, 2-0, 3-1, 3-4, 5-6, 6-5. */
    private static LastHappened net() {
        LastHappened x = new LastHappened();
        int[][] ends = {{0, 1}, {1, 2}, {2, 0}, {3, 1}, {3, 4}, {5, 6}, {6, 5}};
        for (int i = 0; i < ends.length; i++) {
            x.street(ends[i][0], ends[i][1], 1, i);
        }
        return x;
    }

    private static void where() {
        LastHappened x = net();
        int[] parades = {0b0001111, 0b0001111, 0b0000111, 0b0011011, 0b0011000, 0b1100000, 0b1100000};
        for (int street = 0; street < 7; street++) {
            x.event(PARADE, street, 0, 3, 0, 0);
            due("a parade in street " + street, x.of(street, 9), parades[street]);
        }
        for (int kind : new int[] {PLAIN, MURDER, STAGED, BIRTH, TRIAL}) {
            LastHappened y = net();
            for (int street = 0; street < 7; street++) {
                y.event(kind, street, 0, 9, 0, 0);
                due("kind " + kind + " in street " + street, y.of(street, 9), 1 << street);
            }
        }
        LastHappened z = street(0);
        z.event(PARADE, 0, 0, 3, 0, 0);
        due("a parade in the only street", z.of(0, 9), 1);
        z.street(1, 7, 1, 0);
        due("a street that comes later meets it, too", z.of(0, 9), 3);
    }

    private static void seen() {
        LastHappened x = new LastHappened();
        for (int kind = 0; kind < 6; kind++) {
            for (int seen = 0; seen < 10; seen++) {
                if (seen % 5 == 0) {
                    x = new LastHappened();
                }
                for (int law = 0; law < 3; law++) {
                    anew(x, law);
                    x.event(kind, 0, 4, seen, 9, 7);
                    String told = "kind " + kind + " seen by " + seen + ", law " + law;
                    due(told, x.name(0, 4), seen >= NEEDED[kind] ? 107 : 103);
                    due(told + ": changes", x.changes(0), seen >= NEEDED[kind] ? 1 : 0);
                }
            }
        }
    }

    /** A first event of any kind, then a plain one of rank 0 in each hour: the hour till which it stands, or later. */
    private static void stands() {
        for (int kind = 0; kind < 6; kind++) {
            for (int law = 0; law < 2; law++) {
                for (int hour = 0; hour < 24; hour++) {
                    LastHappened x = new LastHappened();
                    for (int later = hour; later < 24; later++) {
                        anew(x, law);
                        x.event(kind, 0, hour, 9, 9, 7);
                        x.event(PLAIN, 0, later, 2, 0, 8);
                        int want = later >= hour + STANDS[kind] ? 108 : 107;
                        due("kind " + kind + " at " + hour + ", plain at " + later + ", law " + law, x.name(0, later), want);
                    }
                }
            }
        }
    }

    /** Two events of any kinds and ranks, an hour apart, so that the first one's name stands. */
    private static void laws() {
        LastHappened x = new LastHappened();
        int uses = 0;
        for (int kinds = 0; kinds < 36; kinds++) {
            for (int ranks = 0; ranks < 100; ranks++) {
                for (int law = 0; law < 3; law++) {
                    uses++;
                    if (uses % 60 == 0) {
                        x = new LastHappened();
                    }
                    int first = GIVEN[kinds / 6][ranks / 10];
                    int second = GIVEN[kinds % 6][ranks % 10];
                    anew(x, law);
                    x.event(kinds / 6, 0, 8, 9, ranks / 10, 7);
                    x.event(kinds % 6, 0, 9, 9, ranks % 10, 8);
                    boolean isRenamed = law == 0 ? second >= first : law == 1 ? second > first : true;
                    due("law " + law + ", kinds " + kinds / 6 + " and " + kinds % 6 + ", ranks " + ranks / 10 + " and "
                        + ranks % 10, x.name(0, 9), isRenamed ? 108 : 107);
                }
            }
        }
    }

    private static void firstName() {
        for (int law = 0; law < 3; law++) {
            LastHappened x = street(law);
            due("the name at first", x.name(0, 0), 103);
            x.event(PLAIN, 0, 0, 2, 0, 7);
            due("a first name stands till hour 0, law " + law, x.name(0, 0), 107);
            LastHappened y = street(law);
            y.event(STAGED, 0, 23, 4, 1, 7);
            due("nor does it stand any more at 23, law " + law, y.name(0, 23), 107);
            due("it is called so till 22, law " + law, y.name(0, 22), 103);
        }
    }

    private static void whatARefusedEventLeaves() {
        LastHappened x = street(1);
        x.event(PLAIN, 0, 2, 2, 5, 7);
        x.event(MURDER, 0, 3, 2, 5, 8);
        x.event(PLAIN, 0, 4, 2, 4, 9);
        due("it leaves the rank", x.name(0, 4), 107);
        x.event(PLAIN, 0, 5, 2, 0, 10);
        due("it leaves the hour till which the name stands", x.name(0, 5), 110);
        LastHappened y = street(1);
        y.event(PLAIN, 0, 2, 2, 5, 7);
        y.event(MURDER, 0, 3, 2, 6, 8);
        y.event(PLAIN, 0, 11, 2, 6, 9);
        due("one that renames has its own rank", y.name(0, 11), 108);
        y.event(PLAIN, 0, 12, 2, 0, 10);
        due("and its own hour", y.name(0, 12), 110);
        y.event(PLAIN, 0, 13, 2, 1, 11);
        due("the rank may be less than ahead", y.name(0, 13), 111);
    }

    private static void orderOfEvents() {
        for (int law = 0; law < 3; law++) {
            LastHappened x = street(law);
            x.event(PLAIN, 0, 5, 2, 4, 7);
            x.event(PLAIN, 0, 5, 2, 4, 8);
            due("two of a like rank in an hour, law " + law, x.name(0, 5), law == 1 ? 107 : 108);
            x.event(PLAIN, 0, 5, 2, 3, 9);
            due("a lesser one behind them, law " + law, x.name(0, 5), law == 0 ? 108 : law == 1 ? 107 : 109);
            x.event(PLAIN, 0, 4, 2, 9, 10);
            due("one told last in an earlier hour, law " + law, x.name(0, 5), law == 2 ? 109 : 110);
            due("in that earlier hour, law " + law, x.name(0, 4), 110);
        }
        LastHappened y = street(2);
        for (int i = 0; i < 8; i++) {
            y.event(PLAIN, 0, 23 - 3 * i, 2, i, 15 - i);
        }
        for (int hour = 0; hour < 24; hour++) {
            int event = (23 - hour + 2) / 3;
            due("hours in order, " + hour, y.name(0, hour), hour < 2 ? 103 : 100 + 15 - event);
        }
    }

    private static void hoursOfTheDay() {
        for (int hour = 0; hour < 24; hour++) {
            LastHappened x = street(0);
            x.event(PLAIN, 0, hour, 2, 0, 7);
            for (int h = 0; h < 24; h++) {
                due("an event at " + hour + ", the name at " + h, x.name(0, h), h < hour ? 103 : 107);
            }
            due("it is renamed in the day, at " + hour, x.changes(0), 1);
        }
    }

    private static void numbers() {
        for (int streets = 1; streets <= 7; streets++) {
            for (int word = 0; word < 16; word += 5) {
                LastHappened x = star(streets, word);
                for (int i = 0; i < streets; i++) {
                    due("first names have number 1", x.name(i, 0), 100 + word);
                }
                x.event(PLAIN, streets - 1, 0, 2, 0, word);
                due("1 for each other of " + streets + " streets", x.name(streets - 1, 0), 100 * streets + word);
                due("the others' numbers stay", x.name(0, 0), 100 + word);
            }
        }
        LastHappened x = star(3, 3);
        x.event(PLAIN, 0, 0, 2, 0, 3);
        due("two others of that word", x.name(0, 0), 303);
        x.event(PLAIN, 1, 1, 2, 0, 4);
        due("when another goes, a number stays", x.name(0, 1), 303);
        x.event(PLAIN, 0, 2, 2, 0, 3);
        due("renamed to a like word, it has a new number", x.name(0, 2), 203);
        x.event(PLAIN, 2, 3, 2, 0, 4);
        due("the second of another word", x.name(2, 3), 204);
        x.event(PLAIN, 0, 6, 2, 0, 3);
        due("its own word does not count", x.name(0, 6), 103);
    }

    private static void numbersOfAParade() {
        for (int of = 0; of < 7; of++) {
            LastHappened x = star(7, 3);
            x.event(PARADE, of, 5, 3, 0, 9);
            for (int i = 0; i < 7; i++) {
                due("a parade told of street " + of + ", street " + i, x.name(i, 5), 100 * (i + 1) + 9);
            }
        }
        LastHappened x = star(7, 3);
        x.event(PLAIN, 3, 4, 2, 0, 9);
        x.event(PARADE, 6, 5, 3, 0, 9);
        int[] want = {209, 309, 409, 409, 509, 609, 709};
        for (int i = 0; i < 7; i++) {
            due("one has the word already, street " + i, x.name(i, 5), want[i]);
        }
        LastHappened y = star(7, 3);
        y.law(1);
        y.event(MURDER, 2, 4, 2, 5, 1);
        y.event(PARADE, 6, 5, 3, 5, 9);
        int[] past = {109, 209, 101, 309, 409, 509, 609};
        for (int i = 0; i < 7; i++) {
            due("one is not renamed, street " + i, y.name(i, 5), past[i]);
        }
    }

    /** What a law told later makes of the same day. */
    private static void anotherLaw() {
        LastHappened x = street(0);
        x.event(PLAIN, 0, 5, 2, 4, 7);
        x.event(PLAIN, 0, 6, 2, 4, 8);
        x.event(PLAIN, 0, 7, 2, 3, 9);
        int[] want = {108, 107, 109};
        for (int law = 0; law < 3; law++) {
            x.law(law);
            due("law " + law + " told behind the events", x.name(0, 7), want[law]);
        }
    }

    private static void changes() {
        LastHappened x = street(2);
        due("none", x.changes(0), 0);
        for (int i = 0; i < 8; i++) {
            x.event(PLAIN, 0, i < 4 ? 0 : 23, i == 5 ? 1 : 2, 0, 3);
            due("to a like name, at 0 and at 23", x.changes(0), i < 5 ? i + 1 : i);
        }
        LastHappened y = star(2, 3);
        y.event(PARADE, 0, 0, 3, 5, 3);
        due("each street its own, 0", y.changes(0), 1);
        due("each street its own, 1", y.changes(1), 1);
        y.event(PLAIN, 1, 2, 2, 4, 3);
        due("not where the law is against it", y.changes(1), 1);
        y.event(PLAIN, 1, 3, 2, 4, 3);
        due("where the name does not stand any more", y.changes(1), 2);
    }

    public static void main(String[] args) {
        Calls.part("KINDS: how many have to have seen it, the rank (half, cut), hours, each rank");
        kinds();
        Calls.part("KINDS: where it happens, all that have a corner in common");
        where();
        Calls.part("RENAMED if enough have seen it");
        seen();
        Calls.part("RENAMED if the name does not stand any more: that hour, or later");
        stands();
        Calls.part("RENAMED by law 0, 1, 2: no less, greater, always");
        laws();
        Calls.part("the name at first stands till hour 0");
        firstName();
        Calls.part("then it has the rank and the hour of the event that renamed it");
        whatARefusedEventLeaves();
        Calls.part("EVENTS of an hour in order");
        orderOfEvents();
        Calls.part("NAMES of an hour are as behind its events, hours 0 to 23");
        hoursOfTheDay();
        Calls.part("a NUMBER: 1, and 1 for each other street of that word");
        numbers();
        Calls.part("a NUMBER in a parade, streets in order");
        numbersOfAParade();
        Calls.part("LAW as it is when it is asked");
        anotherLaw();
        Calls.part("CHANGES, to a like name, too");
        changes();
        Calls.finish("kinds, laws, names");
    }
}
