/**
 * What names are asked for: WHICH, LETTERS, CABS, FIND, RENT of a street, over all hours and each
 * of their edges.
 */
public final class AskingTest {
    private static final int NONE = -1;

    private AskingTest() {
    }

    private static void due(String call, long got, long want) {
        Calls.due(call, got, want);
    }

    /** Streets 0 and 1, both of word 4; street 0 has word 7 from hour 10, street 1 word 9 from hour 15. */
    private static LastHappened two() {
        LastHappened x = new LastHappened();
        x.street(0, 1, 1, 4);
        x.street(1, 2, 1, 4);
        x.event(0, 0, 10, 2, 0, 7);
        x.event(0, 1, 15, 2, 0, 9);
        return x;
    }

    private static int nameOf(int street, int hour) {
        return street == 0 ? hour < 10 ? 104 : 107 : hour < 15 ? 104 : 109;
    }

    private static int firstCalled(int name, int hour) {
        return nameOf(0, hour) == name ? 0 : nameOf(1, hour) == name ? 1 : NONE;
    }

    private static void which() {
        LastHappened x = two();
        for (int a = 0; a < 24; a++) {
            x = two();
            for (int b = 0; b < 24; b++) {
                int first = (a < 10 ? 1 : 0) + (a < 15 ? 2 : 0);
                due("which(104, " + a + ", " + b + ")", x.which(104, a, b), b < a ? -2 : first);
                due("which(107, " + a + ", " + b + ")", x.which(107, a, b), b < a ? -2 : b >= 10 ? 1 : 0);
                due("which(109, " + a + ", " + b + ")", x.which(109, a, b), b < a ? -2 : b >= 15 ? 2 : 0);
            }
        }
        for (int name : new int[] {0, 1, 4, 7, 99, 100, 103, 105, 116, 200, 204, 207, 400, 1040, 104 + 65536, Integer.MAX_VALUE}) {
            due("a name that none has, " + name, x.which(name, 0, 23), 0);
        }
        due("a name below 0", x.which(-1, 0, 23), -2);
        due("the least name", x.which(Integer.MIN_VALUE, 0, 23), -2);
        LastHappened y = seven();
        due("seven of one name", y.which(115, 0, 0), 127);
        y.event(0, 6, 3, 2, 0, 15);
        due("the greatest name", y.which(715, 0, 23), 64);
        due("it has its first one ahead of that", y.which(115, 2, 2), 127);
        due("and not then", y.which(115, 3, 3), 63);
    }

    private static LastHappened seven() {
        LastHappened x = new LastHappened();
        for (int i = 0; i < 7; i++) {
            x.street(i, i + 1, 9, 15);
        }
        return x;
    }

    private static void letter() {
        for (int street = 0; street < 2; street++) {
            for (int a = 0; a < 24; a++) {
                LastHappened x = two();
                for (int b = 0; b < 24; b++) {
                    int to = firstCalled(nameOf(street, a), b);
                    int want = b < a ? -2 : to == street ? 0 : to == NONE ? 2 : 1;
                    due("letter(" + street + ", " + a + ", " + b + ")", x.letter(street, a, b), want);
                }
            }
        }
        LastHappened y = seven();
        for (int i = 0; i < 7; i++) {
            due("of like names the first, street " + i, y.letter(i, 0, 23), i == 0 ? 0 : 1);
        }
    }

    private static void cab() {
        for (int street = 0; street < 2; street++) {
            for (int hour = 0; hour < 24; hour++) {
                LastHappened x = two();
                for (int k = -1; k < 25; k++) {
                    int then = hour > k ? hour - k : 0;
                    int want = k < 0 || k > 23 ? -2 : firstCalled(nameOf(street, hour), then);
                    due("cab(" + street + ", " + hour + ", " + k + ")", x.cab(street, hour, k), want);
                }
            }
        }
        LastHappened y = new LastHappened();
        y.street(0, 1, 1, 4);
        y.event(0, 0, 0, 2, 0, 7);
        y.event(0, 0, 3, 2, 0, 4);
        due("hour 0 is as behind its events", y.cab(0, 3, 23), NONE);
        due("in the hour itself", y.cab(0, 3, 0), 0);
        y.street(2, 3, 1, 4);
        due("another that has the name in hour 0", y.cab(0, 3, 3), NONE);
        due("that is called 204 then", y.name(0, 3), 204);
        due("one that is called 104", y.cab(1, 3, 3), 1);
        LastHappened z = new LastHappened();
        z.street(0, 1, 1, 4);
        z.street(2, 3, 1, 4);
        z.event(0, 0, 1, 2, 0, 7);
        due("hour 0, not hour 1, if that is earlier", z.cab(1, 23, 23), 0);
        due("hour 0", z.cab(1, 22, 22), 0);
        due("hour 1", z.cab(1, 23, 22), 1);
        due("hour 0 to hour 0", z.cab(1, 0, 1), 0);
    }

    /** Names that a town ahead had are none any more, though streets of those numbers are there no more. */
    private static void aTownAhead() {
        LastHappened x = seven();
        x.town(0);
        x.street(0, 1, 1, 15);
        x.event(0, 0, 5, 2, 0, 7);
        due("which", x.which(115, 0, 23), 1);
        due("which, behind it", x.which(115, 5, 23), 0);
        due("a letter is lost", x.letter(0, 0, 5), 2);
        due("no cab", x.cab(0, 5, 1), NONE);
        LastHappened y = seven();
        due("the names of seven", y.which(115, 0, 23), 127);
        y.event(1, 0, 2, 3, 0, 7);
        y.rent(7, 9);
        y.reading(0, 0, 0);
        y.town(2);
        y.street(0, 1, 1, 15);
        due("none but the one", y.which(115, 0, 23), 1);
        y.event(0, 0, 5, 2, 0, 7);
        due("a letter is lost", y.letter(0, 0, 5), 2);
        due("no cab", y.cab(0, 5, 1), NONE);
        due("the most of one name", y.find(1, 1), 1);
        due("rents", y.rents(0), 0);
        due("sets", y.truly(0), 2);
        due("days", y.drawn(1, 30, 100), 30);
        due("to be forbidden", y.forbid(0), 1);
        due("round", y.round(1, 1), 1);
        due("none from a corner of the town ahead", y.round(2, 1), NONE);
    }

    private static void find() {
        for (int hour = 0; hour < 24; hour++) {
            LastHappened x = new LastHappened();
            x.street(0, 1, 1, 4);
            x.street(1, 2, 1, 4);
            x.event(0, 0, hour, 2, 0, 7);
            due("the first hour in which they differ", x.find(3, 0), hour);
            due("how many then", x.find(3, 1), 1);
            due("one street, the first hour", x.find(2, 0), 0);
            due("one street, how many", x.find(2, 1), 1);
            due("no streets, the first hour", x.find(0, 0), 0);
            due("no streets, how many", x.find(0, 1), 0);
            due("a street too many", x.find(4, 0), -2);
            due("a street too many", x.find(7, 1), -2);
        }
        LastHappened x = new LastHappened();
        due("no streets in a new object, the hour", x.find(0, 0), 0);
        due("no streets in a new object, how many", x.find(0, 1), 0);
        due("a street in a new object", x.find(1, 1), -2);
        LastHappened y = seven();
        due("seven of one name", y.find(127, 1), 7);
        due("seven, the hour", y.find(127, 0), 0);
        due("eight streets", y.find(128, 1), -2);
        for (int i = 0; i < 7; i++) {
            due("one of seven, " + i, y.find(1 << i, 1), 1);
            due("all but one of seven, " + i, y.find(127 - (1 << i), 1), 6);
        }
        for (int i = 0; i < 7; i++) {
            y.event(0, i, 20, 2, 0, 7);
            due("so many have 115 in hour 20", y.find(127, 1), Math.max(1, 6 - i));
            due("in hour 20", y.find(127, 0), 20);
        }
    }

    /** Three streets have one name but for hours 12 and 13 (two of them), and 2 (two of them); then four. */
    private static void findInTheMiddle() {
        LastHappened x = new LastHappened();
        x.law(2);
        x.street(0, 1, 1, 4);
        x.street(0, 1, 1, 4);
        x.street(0, 1, 1, 4);
        x.street(2, 3, 1, 9);
        x.event(0, 3, 2, 2, 0, 8);
        x.event(0, 0, 5, 2, 0, 9);
        x.event(0, 1, 5, 2, 0, 9);
        due("of like ones the first", x.find(15, 0), 5);
        due("how many", x.find(15, 1), 1);
        due("without the one that differs", x.find(7, 0), 5);
        due("two of them", x.find(6, 0), 5);
        due("three of one name ahead", x.which(104, 2, 4), 7);
        x.back(2);
        x.back(1);
        x.event(0, 3, 23, 2, 0, 4);
        due("fewer at no hour", x.find(15, 0), 0);
        due("three of one name", x.find(15, 1), 3);
    }

    private static void rents() {
        LastHappened x = new LastHappened();
        x.street(0, 1, 1, 15);
        due("no rents", x.rents(0), 0);
        x.rent(15, 99);
        due("24 hours of the greatest rent", x.rents(0), 2376);
        for (int hour = 0; hour < 24; hour++) {
            x.event(0, 0, hour, 2, 0, 0);
            due("till an event at " + hour, x.rents(0), 99 * hour);
            x.rent(0, 1);
            due("and from then on", x.rents(0), 99 * hour + 24 - hour);
            x.rent(0, 0);
            x.back(0);
        }
        x.event(5, 0, 5, 1, 9, 0);
        due("not seen by enough", x.rents(0), 2376);
    }

    public static void main(String[] args) {
        Calls.part("WHICH: hours from a to b (no less than a), names from 0");
        which();
        Calls.part("LETTERS: home, wrong, lost; b no less than a");
        letter();
        Calls.part("CABS: k hours ago, hour 0 if that is earlier, none");
        cab();
        Calls.part("a town ahead leaves no names");
        aTownAhead();
        Calls.part("FIND: the fewest, the first hour, no streets");
        find();
        findInTheMiddle();
        Calls.part("RENT of a street: hours 0 to 23, rents 0 to 99");
        rents();
        Calls.finish("what names are asked for");
    }
}
