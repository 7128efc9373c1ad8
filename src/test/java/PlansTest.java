import java.util.Arrays;

/** What to do: STAGE (0 to 2, none, rows of hours), FORBID, LANDLORDS, ROUND, with each of their edges. */
public final class PlansTest {
    private static final int NONE = -1;
    private static final int NOT_SO_MANY = -5;
    private static final int PLAIN = 0;
    private static final int MURDER = 2;
    private static final int STAGED = 3;
    private static final int TRIAL = 5;

    private PlansTest() {
    }

    private static void due(String call, long got, long want) {
        Calls.due(call, got, want);
    }

    /** One street of word 3. */
    private static LastHappened street(int law) {
        LastHappened x = new LastHappened();
        x.law(law);
        x.street(0, 1, 5, 3);
        return x;
    }

    /** What stage answers to every i, and that neither STATUS nor anything else changes by it. */
    private static void staged(LastHappened x, int word, int hour, int... hours) {
        String told = "stage(0, " + word + ", " + hour + ", ";
        long before = x.digest();
        int[] status = States.status(x);
        due(told + "-1)", x.stage(0, word, hour, -1), hours.length);
        for (int i = 0; i < 4; i++) {
            due(told + i + ")", x.stage(0, word, hour, i), i < hours.length ? hours[i] : NOT_SO_MANY);
        }
        due(told + "the greatest i)", x.stage(0, word, hour, Integer.MAX_VALUE), NOT_SO_MANY);
        due(told + "changes nothing", x.digest(), before);
        due(told + "is not counted", Arrays.equals(status, States.status(x)) ? 1 : 0, 1);
    }

    private static void none(LastHappened x, int word, int hour) {
        long before = x.digest();
        int[] status = States.status(x);
        for (int i : new int[] {-1, 0, 1, 2, Integer.MAX_VALUE}) {
            due("stage(0, " + word + ", " + hour + ", " + i + ") of none", x.stage(0, word, hour, i), NONE);
        }
        due("it changes nothing", x.digest(), before);
        due("it is not counted", Arrays.equals(status, States.status(x)) ? 1 : 0, 1);
    }

    private static void stageNoneAndOne() {
        for (int law = 0; law < 3; law++) {
            for (int hour = 0; hour < 24; hour++) {
                LastHappened x = street(law);
                staged(x, 3, hour);
                staged(x, 4, hour, 0);
                staged(x, 0, hour, 0);
                staged(x, 15, hour, 0);
            }
        }
        LastHappened x = street(0);
        x.event(MURDER, 0, 5, 2, 9, 8);
        staged(x, 8, 5);
        staged(x, 8, 23);
        staged(x, 8, 4, 0);
        staged(x, 3, 4);
        LastHappened y = street(0);
        y.event(PLAIN, 0, 0, 2, 5, 8);
        none(y, 4, 0);
        none(y, 4, 2);
        staged(y, 4, 3, 3);
        staged(y, 8, 0);
    }

    /** Law 0 lets a like rank in, law 1 only a greater one: the staged one has 4, which is half of 9, cut. */
    private static void stageAgainstARank() {
        for (int law = 0; law < 2; law++) {
            for (int rank = 0; rank < 10; rank++) {
                for (int hour = 0; hour < 24; hour++) {
                    LastHappened x = street(law);
                    x.event(MURDER, 0, 3, 2, rank, 8);
                    int first = firstAgainst(law, rank);
                    if (hour < 3) {
                        staged(x, 4, hour, 0);
                    } else if (hour < first) {
                        none(x, 4, hour);
                    } else {
                        staged(x, 4, hour, first);
                    }
                }
            }
        }
    }

    /** The murder at 3 stands till 12; who stages at 1 has a name that stands till 4, at 0 one that stands till 3. */
    private static int firstAgainst(int law, int rank) {
        if (law == 0) {
            return rank < 4 ? 1 : rank == 4 ? 3 : 12;
        }
        return rank <= 4 ? 1 : 12;
    }

    private static void stageLaterThanAll() {
        for (int hour = 0; hour < 24; hour++) {
            LastHappened x = street(2);
            x.event(PLAIN, 0, hour, 2, 9, 8);
            staged(x, 4, 23, hour);
            staged(x, 4, hour, hour);
            LastHappened y = street(0);
            y.event(TRIAL, 0, hour, 2, 9, 8);
            if (hour + 18 <= 23) {
                staged(y, 4, 23, hour + 18);
            } else {
                none(y, 4, 23);
            }
        }
    }

    /** Law 1: a murder at 2 of rank 4 would stand till 11, a plain one of rank 4 at 4 is in between. */
    private static void stageTwo() {
        LastHappened x = street(1);
        x.event(MURDER, 0, 2, 2, 4, 6);
        x.event(PLAIN, 0, 4, 2, 4, 7);
        staged(x, 9, 7, 0, 3);
        staged(x, 9, 6, 0, 3);
        staged(x, 9, 4, 0, 3);
        staged(x, 9, 3, 0);
        staged(x, 9, 2, 0);
        staged(x, 9, 11, 11);
        staged(x, 7, 6, 0);
        for (int i = 0; i < 6; i++) {
            x.event(PLAIN, 0, 20, 1, 9, i);
        }
        due("no room for more", x.event(PLAIN, 0, 0, 0, 0, 0), -4);
        staged(x, 9, 7, 0, 3);
        staged(x, 9, 11, 11);
        LastHappened late = street(1);
        late.event(MURDER, 0, 18, 2, 4, 6);
        late.event(PLAIN, 0, 20, 2, 4, 7);
        staged(late, 9, 23, 16, 19);
        staged(late, 9, 20, 16, 19);
        staged(late, 9, 19, 16);
    }

    /** Three murders have to be kept out, each by another staged one; the first one would keep all out till 11. */
    private static void stageThreeWouldBeNeeded() {
        LastHappened x = street(1);
        x.event(MURDER, 0, 2, 2, 4, 6);
        x.event(MURDER, 0, 4, 2, 4, 7);
        x.event(MURDER, 0, 7, 2, 4, 8);
        staged(x, 9, 6, 0, 3);
        for (int hour = 7; hour < 11; hour++) {
            none(x, 9, hour);
        }
        for (int hour = 11; hour < 24; hour++) {
            staged(x, 9, hour, 11);
        }
    }

    private static void forbidden(LastHappened x, String told, int want) {
        long before = x.digest();
        due(told, x.forbid(0), want);
        due(told + ": nothing is changed by it", x.digest(), before);
    }

    private static void forbid() {
        forbidden(street(0), "no events", 0);
        for (int events = 1; events <= 8; events++) {
            LastHappened x = street(2);
            for (int i = 0; i < events; i++) {
                x.event(PLAIN, 0, 3 * i % 24, 2, 0, 4 + i);
            }
            forbidden(x, "all of " + events, (1 << events) - 1);
        }
        for (int hour = 0; hour < 24; hour++) {
            LastHappened x = street(2);
            x.event(PLAIN, 0, hour, 1, 9, 4);
            forbidden(x, "not seen by enough at " + hour, 0);
            x.event(PLAIN, 0, hour, 2, 9, 4);
            forbidden(x, "one at " + hour, 2);
            x.event(PLAIN, 0, 23, 2, 9, 3);
            forbidden(x, "its first word again at 23", 0);
        }
        LastHappened like = street(0);
        like.event(PLAIN, 0, 20, 2, 5, 7);
        like.event(PLAIN, 0, 20, 2, 6, 3);
        like.event(PLAIN, 0, 21, 2, 7, 8);
        like.event(PLAIN, 0, 22, 2, 8, 9);
        forbidden(like, "the last two", 12);
        like.event(PLAIN, 0, 23, 2, 8, 3);
        forbidden(like, "none", 0);
        LastHappened other = new LastHappened();
        other.street(0, 1, 1, 3);
        other.street(1, 2, 1, 3);
        other.event(1, 1, 0, 3, 0, 5);
        other.event(PLAIN, 1, 9, 2, 0, 6);
        forbidden(other, "a parade of another street", 1);
        due("both for that one", other.forbid(1), 3);
        other.back(0);
        forbidden(other, "none, once the parade is taken back", 0);
        due("the one that is left is the first", other.forbid(1), 1);
    }

    /** An event that does not happen lets in another, of the first word or not. */
    private static void forbidTheLeast() {
        LastHappened x = street(1);
        x.event(PLAIN, 0, 8, 2, 4, 7);
        x.event(PLAIN, 0, 9, 2, 5, 7);
        x.event(MURDER, 0, 10, 2, 5, 3);
        forbidden(x, "the one ahead, so that the murder stands", 2);
        LastHappened y = street(2);
        y.event(PLAIN, 0, 8, 2, 4, 7);
        y.event(PLAIN, 0, 9, 2, 5, 3);
        y.event(PLAIN, 0, 10, 2, 5, 8);
        forbidden(y, "the last alone, not the two that differ", 4);
        LastHappened z = street(0);
        z.event(PLAIN, 0, 8, 2, 9, 7);
        z.event(TRIAL, 0, 8, 2, 5, 3);
        z.event(PLAIN, 0, 20, 2, 5, 3);
        z.event(PLAIN, 0, 19, 2, 6, 8);
        forbidden(z, "event 0 or event 3: the least", 1);
        LastHappened w = street(0);
        w.event(PLAIN, 0, 19, 2, 6, 8);
        w.event(PLAIN, 0, 8, 2, 9, 7);
        w.event(TRIAL, 0, 8, 2, 5, 3);
        w.event(PLAIN, 0, 20, 2, 5, 3);
        forbidden(w, "the same told in another order: the least", 1);
        LastHappened v = street(0);
        v.event(PLAIN, 0, 8, 2, 9, 7);
        v.event(PLAIN, 0, 8, 2, 9, 8);
        v.event(PLAIN, 0, 19, 2, 6, 8);
        v.event(TRIAL, 0, 9, 2, 5, 3);
        v.event(PLAIN, 0, 20, 2, 5, 3);
        forbidden(v, "event 2, or events 0 and 1, which are less as bits: the fewest", 4);
    }

    /** Streets 0 and 3 would gain 10 in hour 23 (rent 0), 1 and 4 would gain 5, 2 and 5 have the dearest word. */
    private static LastHappened rented() {
        LastHappened x = new LastHappened();
        for (int i = 0; i < 6; i++) {
            x.street(i, i + 1, 1, 1 + i % 3);
        }
        x.rent(2, 5);
        x.rent(3, 10);
        return x;
    }

    private static void landlords() {
        LastHappened x = rented();
        int[][] want = {{8, 2 + 8, 2}, {4 + 8, 15, 1 + 2}, {4, 1 + 4, 1}};
        for (int a = 0; a < 6; a++) {
            for (int b = 0; b < 6; b++) {
                due("landlords(" + a + ", " + b + ", 23, 5)", x.landlords(a, b, 23, 5), a == b ? -2 : want[a % 3][b % 3]);
            }
        }
        due("for nothing", x.landlords(0, 2, 23, 0), 2 + 8);
        due("for as much as is gained", x.landlords(0, 3, 23, 10), 15);
        due("for 1 more", x.landlords(0, 3, 23, 11), 1);
        due("for 1 less", x.landlords(0, 3, 23, 9), 8);
        due("in hour 0 there are 240 to gain", x.landlords(0, 3, 0, 99), 8);
        due("in hour 14 there are 100", x.landlords(0, 3, 14, 99), 8);
        due("in hour 15 there are 90", x.landlords(0, 3, 15, 99), 1);
        due("90 for 90", x.landlords(0, 3, 15, 90), 15);
    }

    /** Which of like rents' words is taken can't be told from rents; that it is one of them can. */
    private static void landlordsAndWords() {
        for (int word = 0; word < 16; word++) {
            LastHappened each = new LastHappened();
            each.street(0, 1, 1, word);
            each.street(1, 2, 1, (word + 1) % 16);
            for (int other = 0; other < 16; other++) {
                each.rent(other, other == word ? 10 : other % 10);
            }
            int gained = 10 - (word + 1) % 16 % 10;
            due("the dearest word " + word + ", b gains", each.landlords(0, 1, 23, gained), 1 + 4);
            due("the dearest word " + word + ", b would lose", each.landlords(0, 1, 23, gained + 1), 1);
            due("the dearest word " + word + ", b wins", each.landlords(0, 1, 23, gained - 1), gained > 1 ? 4 : 4 + 8);
        }
        LastHappened x = rented();
        x.rent(7, 10);
        due("of like rents the first", x.landlords(2, 5, 23, 0), 15);
        x.rent(0, 10);
        due("of like rents the first, word 0", x.landlords(2, 5, 23, 0), 15);
        x.rent(15, 11);
        due("the greatest rent, word 15", x.landlords(2, 5, 23, 0), 8);
        due("it is 1 more", x.landlords(2, 5, 23, 1), 15);
        LastHappened none = new LastHappened();
        none.street(0, 1, 1, 4);
        none.street(0, 1, 1, 0);
        due("no rents, for nothing", none.landlords(0, 1, 0, 0), 15);
        due("no rents, for 1", none.landlords(0, 1, 0, 1), 1);
    }

    /** What happens keeps a staged one out, behind all others of its hour, or comes in behind it. */
    private static void landlordsAndEvents() {
        LastHappened x = rented();
        x.event(TRIAL, 0, 3, 2, 9, 1);
        due("a trial till 21", x.landlords(0, 3, 20, 5), 4);
        due("it does not stand any more", x.landlords(0, 3, 21, 5), 8);
        LastHappened y = rented();
        y.event(STAGED, 0, 20, 4, 9, 1);
        due("behind a like rank in its hour", y.landlords(0, 3, 20, 5), 8);
        y.law(1);
        due("not by law 1", y.landlords(0, 3, 20, 5), 4);
        LastHappened z = rented();
        z.event(PLAIN, 0, 21, 2, 5, 1);
        due("an event behind it takes the word away", z.landlords(0, 3, 20, 10), 4 + 8);
        due("so that it gains 10 in one hour", z.landlords(0, 3, 20, 11), 4);
        for (int i = 0; i < 7; i++) {
            z.event(PLAIN, 5, 0, 1, 0, 0);
        }
        due("whatever room there is", z.landlords(0, 3, 20, 10), 4 + 8);
        due("nothing is changed by it", z.count(1), 8);
    }

    private static void round() {
        LastHappened none = new LastHappened();
        for (int corner = 0; corner < 8; corner++) {
            due("no streets at all, from " + corner, none.round(corner, 0), 0);
        }
        due("a street that is not there", none.round(0, 1), -2);
        for (int first = 0; first < 8; first++) {
            roundOfAChain(first);
        }
    }

    /** A chain of seven streets, from a corner told to the one ahead of it, over all corners in order. */
    private static void roundOfAChain(int first) {
        LastHappened chain = new LastHappened();
        for (int i = 0; i < 7; i++) {
            chain.street((first + i) % 8, (first + i + 1) % 8, 9, 0);
        }
        due("a chain of seven", chain.round(first, 127), 63);
        due("from its other end", chain.round((first + 7) % 8, 127), 63);
        due("from the middle, the shorter part twice", chain.round((first + 3) % 8, 127), 27 + 63);
        due("from the middle, the other shorter part twice", chain.round((first + 4) % 8, 127), 27 + 63);
        for (int place = 0; place < 8; place++) {
            int corner = (first + place) % 8;
            due("no streets, from " + corner, chain.round(corner, 0), 0);
            for (int street = 0; street < 7; street++) {
                int way = place <= street ? street - place : place - street - 1;
                due("one of them, " + street + " from " + corner, chain.round(corner, 1 << street), 9 * way + 9);
            }
        }
        due("an eighth bit", chain.round(0, 128), -2);
    }

    private static void roundNone() {
        LastHappened x = new LastHappened();
        x.street(0, 1, 1, 0);
        x.street(2, 3, 1, 0);
        x.street(3, 4, 1, 0);
        int[] status = States.status(x);
        for (int corner = 0; corner < 8; corner++) {
            boolean isLeft = corner < 2;
            boolean isRight = corner >= 2 && corner < 5;
            due("one street from " + corner, x.round(corner, 1), isLeft ? 1 : NONE);
            due("two others from " + corner, x.round(corner, 6), isRight ? corner == 3 ? 3 : 2 : NONE);
            due("all of them from " + corner, x.round(corner, 7), NONE);
            due("none of them from " + corner, x.round(corner, 0), 0);
        }
        due("none is not counted", Arrays.equals(status, States.status(x)) ? 1 : 0, 1);
        x.street(1, 2, 9, 0);
        due("a way between by a street that is not of them", x.round(0, 7), 1 + 9 + 1 + 1);
    }

    private static void roundShortest() {
        LastHappened x = new LastHappened();
        x.street(0, 1, 9, 0);
        x.street(1, 0, 2, 0);
        x.street(1, 2, 3, 0);
        x.street(2, 0, 3, 0);
        due("the long one of two alike", x.round(0, 1), 9);
        due("both", x.round(0, 3), 11);
        due("the way between by the short one", x.round(0, 4), 5);
        due("the long one and back by the short one", x.round(0, 1 + 8), 9 + 2 + 3);
        due("all of them", x.round(0, 15), 9 + 2 + 3 + 3);
        due("all of them from corner 2", x.round(2, 15), 3 + 2 + 9 + 2 + 3);
        due("from a corner without streets", x.round(3, 1), NONE);
        for (int hub = 0; hub < 8; hub++) {
            roundOfAStar(hub);
        }
    }

    /** Seven streets of 1 to 7 minutes from one corner to all others. */
    private static void roundOfAStar(int hub) {
        LastHappened star = new LastHappened();
        for (int i = 1; i <= 7; i++) {
            star.street(hub, (hub + i) % 8, i, 0);
        }
        due("a star of seven, its longest last", star.round(hub, 127), 2 * 28 - 7);
        due("from its longest one's end", star.round((hub + 7) % 8, 127), 2 * 28 - 7 - 6);
        due("from its shortest one's end", star.round((hub + 1) % 8, 127), 2 * 28 - 1 - 7);
        for (int i = 1; i <= 7; i++) {
            due("two of them, from the end of street " + i, star.round((hub + i) % 8, 64 + 32),
                i == 7 ? 13 : i == 6 ? 13 : i + 12 + 7);
        }
    }

    public static void main(String[] args) {
        Calls.part("STAGE: 0 or 1, every i");
        stageNoneAndOne();
        Calls.part("STAGE: rank 9 of a staged one, a like rank, 3 hours");
        stageAgainstARank();
        Calls.part("STAGE: behind all others, hours 0 to the one told");
        stageLaterThanAll();
        Calls.part("STAGE: 2, the first row, whatever room there is");
        stageTwo();
        Calls.part("STAGE: none, as 3 would be needed");
        stageThreeWouldBeNeeded();
        Calls.part("FORBID: none, one, all of eight, hour 23");
        forbid();
        Calls.part("FORBID: the fewest, of like ones the least");
        forbidTheLeast();
        Calls.part("LANDLORDS: all that can rest, more, as much, less");
        landlords();
        Calls.part("LANDLORDS: the word of the greatest rent, the first of like ones");
        landlordsAndWords();
        Calls.part("LANDLORDS: staged in that hour as STAGE does");
        landlordsAndEvents();
        Calls.part("ROUND: no streets, one, seven");
        round();
        Calls.part("ROUND: none");
        roundNone();
        Calls.part("ROUND: the fewest minutes, by any streets between");
        roundShortest();
        Calls.finish("what to do");
    }
}
