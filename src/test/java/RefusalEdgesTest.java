import java.util.List;
import java.util.function.Supplier;

/**
 * "REFUSALS (the call answers the number, the first that fits in the order in which it tells them; nothing changes but
 * how many there were)": each refusal of each call, on both sides of its bound, and each place where two fit.
 */
final class RefusalEdgesTest {
    private static final Supplier<Watched> EMPTY = States::empty;
    private static final Supplier<Watched> USED = States::usedWithoutLamps;
    private static final Supplier<Watched> KINDS = States::ofAllKinds;
    private static final Supplier<Watched> FULL = States::full;
    private static final List<Supplier<Watched>> WITHOUT_LAMPS = List.of(EMPTY, USED);
    private static final List<Supplier<Watched>> WITH_LAMPS = List.of(KINDS, FULL);
    private static final List<Supplier<Watched>> ALL = List.of(EMPTY, USED, KINDS, FULL);
    private static final int LEAST = States.LEAST;
    private static final int GREATEST = States.GREATEST;

    private RefusalEdgesTest() {
    }

    public static void main(String[] args) {
        feedBelow();
        feedAbove();
        feedBelowAndFull();
        lampNobody();
        lampOther();
        lampNobodyAndOther();
        setOther();
        setBounds();
        setOtherAndBounds();
        swapNobody();
        swapNoSpares();
        swapNobodyAndNoSpares();
        meterNobody();
        finderNobody();
        touchNobody();
        findNobody();
        findOther();
        findNobodyAndOther();
        lookNobody();
        lookOther();
        lookNobodyAndOther();
        orderBelow();
        orderSumWithoutLamps();
        toldNobody();
        toldOther();
        toldRoom();
        toldTwoFit();
        nextOther();
        bridgedBounds();
        stopWithoutLamps();
        lightBounds();
        keepsBounds();
        allAnewWithoutLamps();
        twoOther();
        twoWithoutLamps();
        twoRoom();
        twoTwoFit();
        seedsBounds();
        seedsWithoutLamps();
        seedsTwoFit();
        restoreWithoutImage();
        minusNineIsNoRefusal();
        faultsAreNoRefusals();
        manyRefusals();
        Check.close("RefusalEdgesTest");
    }

    private static int lampsOf(Supplier<Watched> made) {
        return made.get().count(0);
    }

    private static void feedBelow() {
        Check.sentence("feed: -4");
        for (Supplier<Watched> made : List.of(EMPTY, USED, KINDS)) {
            int letters = made.get().count(7);
            Check.refused(made, "feed(-1)", x -> x.feed(-1), -4);
            Check.refused(made, "feed(least)", x -> x.feed(LEAST), -4);
            Check.taken(made, "feed(0)", x -> x.feed(0), letters + 1);
        }
    }

    private static void feedAbove() {
        Check.sentence("feed: -6 (255; 64, too)");
        for (Supplier<Watched> made : List.of(EMPTY, USED, KINDS)) {
            int letters = made.get().count(7);
            Check.refused(made, "feed(256)", x -> x.feed(256), -6);
            Check.refused(made, "feed(greatest)", x -> x.feed(GREATEST), -6);
            Check.taken(made, "feed(255)", x -> x.feed(255), letters + 1);
        }
        for (int letter : new int[] {0, 1, 'u', 254, 255}) {
            Check.refused(FULL, "the 65th, " + letter, x -> x.feed(letter), -6);
        }
        Check.refused(FULL, "the 65th, 256: refused once", x -> x.feed(256), -6);
        Check.taken(() -> withLetters(62), "the 63rd", x -> x.feed('u'), 63);
        Check.taken(() -> withLetters(63), "the 64th", x -> x.feed('u'), 64);
        Check.refused(() -> withLetters(64), "the 65th", x -> x.feed('u'), -6);
    }

    private static Watched withLetters(int letters) {
        Watched x = new Watched();
        Check.feed(x, "g".repeat(letters));
        return x;
    }

    private static void feedBelowAndFull() {
        Check.sentence("feed: -4 ahead of -6");
        Check.refused(FULL, "feed(-1)", x -> x.feed(-1), -4);
        Check.refused(FULL, "feed(least)", x -> x.feed(LEAST), -4);
    }

    private static void lampNobody() {
        Check.sentence("lamp: -1");
        for (Supplier<Watched> made : ALL) {
            for (int lamp : new int[] {-1, lampsOf(made), LEAST, GREATEST}) {
                Check.refused(made, "lamp(" + lamp + ", 0)", x -> x.lamp(lamp, 0), -1);
                Check.refused(made, "lamp(" + lamp + ", 7)", x -> x.lamp(lamp, 7), -1);
            }
        }
        for (Supplier<Watched> made : WITH_LAMPS) {
            int last = lampsOf(made) - 1;
            Check.answers(made, "MINUTES of the first", x -> x.lamp(0, 2), last == 11 ? 2 : 3);
            Check.answers(made, "MINUTES of the last", x -> x.lamp(last, 2), last == 11 ? 2 : 6);
        }
    }

    private static void lampOther() {
        Check.sentence("lamp: -2");
        for (Supplier<Watched> made : WITH_LAMPS) {
            for (int what : new int[] {-1, 8, LEAST, GREATEST}) {
                Check.refused(made, "lamp(0, " + what + ")", x -> x.lamp(0, what), -2);
                Check.refused(made, "lamp(5, " + what + ")", x -> x.lamp(5, what), -2);
            }
        }
        Check.answers(KINDS, "lamp(2, 0)", x -> x.lamp(2, 0), 2);
        Check.answers(KINDS, "lamp(2, 7)", x -> x.lamp(2, 7), 4);
    }

    private static void lampNobodyAndOther() {
        Check.sentence("lamp: -1 ahead of -2");
        for (Supplier<Watched> made : ALL) {
            for (int what : new int[] {-1, 8}) {
                Check.refused(made, "lamp(-1, " + what + ")", x -> x.lamp(-1, what), -1);
                Check.refused(made, "lamp(all, " + what + ")", x -> x.lamp(x.count(0), what), -1);
            }
        }
    }

    private static void setOther() {
        Check.sentence("set: -2");
        for (Supplier<Watched> made : ALL) {
            for (int what : new int[] {-1, 4, LEAST, GREATEST}) {
                Check.refused(made, "set(" + what + ", 5)", x -> x.set(what, 5), -2);
            }
        }
        Check.taken(EMPTY, "set(0, 5)", x -> x.set(0, 5), 230);
        Check.taken(EMPTY, "set(3, 5)", x -> x.set(3, 5), 3);
    }

    private static void setBounds() {
        int[] least = {1, 0, 1, 1};
        int[] greatest = {999, 99, 999, 9};
        int[] first = {230, 3, 100, 3};
        String[] names = {"PUSH (1 .. 999; 230)", "SPARES (0 .. 99; 3)", "LIMIT (1 .. 999; 100)", "GRIP (1 .. 9; 3)"};
        for (int k = 0; k < 4; k++) {
            int what = k;
            Check.sentence(names[k]);
            for (Supplier<Watched> made : ALL) {
                Check.refused(made, "just below", x -> x.set(what, least[what] - 1), -4);
                Check.refused(made, "far below", x -> x.set(what, LEAST), -4);
                Check.refused(made, "just above", x -> x.set(what, greatest[what] + 1), -6);
                Check.refused(made, "far above", x -> x.set(what, GREATEST), -6);
            }
            Check.taken(EMPTY, "the least", x -> x.set(what, least[what]), first[what]);
            Check.taken(EMPTY, "the greatest", x -> x.set(what, greatest[what]), first[what]);
            Watched x = new Watched();
            x.set(what, least[what]);
            Check.due("the least was set", x.set(what, greatest[what]), least[what]);
            Check.due("the greatest was set", x.set(what, greatest[what]), greatest[what]);
            for (int other = 0; other < 4; other++) {
                if (other != what) {
                    Check.due("another is as at first", x.set(other, least[other]), first[other]);
                }
            }
        }
    }

    private static void setOtherAndBounds() {
        Check.sentence("set: -2 ahead of -4 and of -6");
        for (int what : new int[] {-1, 4}) {
            Check.refused(KINDS, "below", x -> x.set(what, -1), -2);
            Check.refused(KINDS, "far below", x -> x.set(what, LEAST), -2);
            Check.refused(KINDS, "above", x -> x.set(what, 1000), -2);
            Check.refused(KINDS, "far above", x -> x.set(what, GREATEST), -2);
        }
    }

    private static Watched withSpares(int spares) {
        Watched x = States.ofAllKinds();
        x.set(1, spares);
        return x;
    }

    private static void swapNobody() {
        Check.sentence("swap: -1");
        for (Supplier<Watched> made : List.of(EMPTY, USED, KINDS)) {
            for (int lamp : new int[] {-1, lampsOf(made), LEAST, GREATEST}) {
                Check.refused(made, "swap(" + lamp + ")", x -> x.swap(lamp), -1);
            }
        }
        Check.taken(KINDS, "swap(0)", x -> x.swap(0), 0);
        Check.taken(KINDS, "swap(3), the one that hangs", x -> x.swap(3), 1);
        Check.taken(KINDS, "swap(5)", x -> x.swap(5), 0);
    }

    private static void swapNoSpares() {
        Check.sentence("swap: -3 no SPARES");
        for (int k = 0; k < 6; k++) {
            int lamp = k;
            Check.refused(() -> withSpares(0), "swap without SPARES", x -> x.swap(lamp), -3);
        }
        Check.refused(FULL, "swap(0)", x -> x.swap(0), -3);
        Check.refused(FULL, "swap(11)", x -> x.swap(11), -3);
        Check.taken(() -> withSpares(1), "the last SPARE", x -> x.swap(3), 1);
        Check.taken(() -> withSpares(1), "the last SPARE is no more", x -> x.swap(3) + x.set(1, 0), 1);
    }

    private static void swapNobodyAndNoSpares() {
        Check.sentence("swap: -1 ahead of -3");
        for (int lamp : new int[] {-1, 12, LEAST, GREATEST}) {
            Check.refused(FULL, "swap(" + lamp + ")", x -> x.swap(lamp), -1);
        }
        Check.refused(() -> withSpares(0), "swap(6)", x -> x.swap(6), -1);
        Check.refused(() -> {
            Watched x = new Watched();
            x.set(1, 0);
            return x;
        }, "swap(0), no LAMPS, no SPARES", x -> x.swap(0), -1);
    }

    /** Pairs of places of which one or both are none, or the first is the greater, in a row of so many. */
    private static int[][] wrongPairs(int lamps) {
        int last = lamps - 1;
        return new int[][] {{-1, 0}, {-1, last}, {0, lamps}, {last, lamps}, {lamps, lamps}, {-1, -1}, {0, -1},
            {lamps, 0}, {lamps, last}, {lamps, -1}, {-1, lamps}, {1, 0}, {last, last - 1}, {last, 0}, {LEAST, 0},
            {0, GREATEST}, {GREATEST, LEAST}, {LEAST, GREATEST}, {LEAST, LEAST}, {GREATEST, GREATEST}};
    }

    private static void meterNobody() {
        Check.sentence("meter: -1 either (i is greater, too)");
        for (Supplier<Watched> made : ALL) {
            for (int[] pair : wrongPairs(lampsOf(made))) {
                Check.refused(made, "meter(" + pair[0] + ", " + pair[1] + ")", x -> x.meter(pair[0], pair[1]), -1);
            }
        }
        for (Supplier<Watched> made : WITHOUT_LAMPS) {
            Check.refused(made, "meter(0, 0)", x -> x.meter(0, 0), -1);
        }
        Check.answers(KINDS, "meter(0, 0)", x -> x.meter(0, 0), 1);
        Check.answers(KINDS, "meter(0, 5)", x -> x.meter(0, 5), 0);
        Check.answers(KINDS, "meter(5, 5)", x -> x.meter(5, 5), 1);
        Check.answers(FULL, "meter(0, 11)", x -> x.meter(0, 11), 1);
        Check.answers(FULL, "meter(11, 11)", x -> x.meter(11, 11), 1);
    }

    private static void finderNobody() {
        Check.sentence("finder: -1");
        for (Supplier<Watched> made : ALL) {
            for (int i : new int[] {-1, lampsOf(made), LEAST, GREATEST}) {
                Check.refused(made, "finder(" + i + ")", x -> x.finder(i), -1);
            }
        }
        for (Supplier<Watched> made : WITH_LAMPS) {
            Check.answers(made, "finder(0)", x -> x.finder(0), 1);
        }
        Check.answers(KINDS, "finder(5)", x -> x.finder(5), 0);
        Check.answers(FULL, "finder(11)", x -> x.finder(11), 1);
    }

    private static void touchNobody() {
        Check.sentence("touch: -1");
        for (Supplier<Watched> made : ALL) {
            for (int lamp : new int[] {-1, lampsOf(made), LEAST, GREATEST}) {
                Check.refused(made, "touch(" + lamp + ")", x -> x.touch(lamp), -1);
            }
        }
        Check.taken(KINDS, "touch(0)", x -> x.touch(0), 0);
        Check.taken(KINDS, "touch(5)", x -> x.touch(5), 0);
        Check.taken(FULL, "touch(11)", x -> x.touch(11), 3);
    }

    private static void findNobody() {
        Check.sentence("find: -1 either (i is greater, too)");
        for (Supplier<Watched> made : ALL) {
            for (int[] pair : wrongPairs(lampsOf(made))) {
                Check.refused(made, "find(" + pair[0] + ", " + pair[1] + ", 0)", x -> x.find(pair[0], pair[1], 0), -1);
            }
            Check.refused(made, "find(1, 0, 1)", x -> x.find(1, 0, 1), -1);
        }
        for (Supplier<Watched> made : WITHOUT_LAMPS) {
            Check.refused(made, "find(0, 0, 0)", x -> x.find(0, 0, 0), -1);
        }
        Check.answers(KINDS, "find(0, 0, 0)", x -> x.find(0, 0, 0), 0);
        Check.answers(FULL, "find(11, 11, 1)", x -> x.find(11, 11, 1), 0);
        Check.answers(FULL, "find(0, 11, 1)", x -> x.find(0, 11, 1), 8);
    }

    private static void findOther() {
        Check.sentence("find: -2");
        for (Supplier<Watched> made : WITH_LAMPS) {
            for (int what : new int[] {-1, 2, LEAST, GREATEST}) {
                Check.refused(made, "find(0, 5, " + what + ")", x -> x.find(0, 5, what), -2);
                Check.refused(made, "find(5, 5, " + what + ")", x -> x.find(5, 5, what), -2);
            }
        }
        Check.answers(FULL, "find(0, 1, 0)", x -> x.find(0, 1, 0), 16);
        Check.answers(FULL, "find(0, 1, 1)", x -> x.find(0, 1, 1), 2);
    }

    private static void findNobodyAndOther() {
        Check.sentence("find: -1 ahead of -2");
        for (Supplier<Watched> made : ALL) {
            for (int[] pair : wrongPairs(lampsOf(made))) {
                Check.refused(made, "find(" + pair[0] + ", " + pair[1] + ", 2)", x -> x.find(pair[0], pair[1], 2), -1);
            }
            Check.refused(made, "find(1, 0, -1)", x -> x.find(1, 0, -1), -1);
        }
    }

    private static void lookNobody() {
        Check.sentence("look: -1 likewise");
        for (Supplier<Watched> made : ALL) {
            for (int[] pair : wrongPairs(lampsOf(made))) {
                Check.refused(made, "look(" + pair[0] + ", " + pair[1] + ", 0)", x -> x.look(pair[0], pair[1], 0), -1);
            }
            Check.refused(made, "look(1, 0, 1)", x -> x.look(1, 0, 1), -1);
        }
        for (Supplier<Watched> made : WITHOUT_LAMPS) {
            Check.refused(made, "look(0, 0, 0)", x -> x.look(0, 0, 0), -1);
        }
        Check.answers(FULL, "look(0, 1, 0)", x -> x.look(0, 1, 0), 1);
        Check.answers(FULL, "look(10, 11, 1)", x -> x.look(10, 11, 1), 11);
    }

    private static void lookOther() {
        Check.sentence("look: -2");
        for (Supplier<Watched> made : WITH_LAMPS) {
            for (int what : new int[] {-1, 2, LEAST, GREATEST}) {
                Check.refused(made, "look(0, 5, " + what + ")", x -> x.look(0, 5, what), -2);
                Check.refused(made, "look(5, 5, " + what + "), no -9", x -> x.look(5, 5, what), -2);
            }
        }
    }

    private static void lookNobodyAndOther() {
        Check.sentence("look: -1 ahead of -2");
        for (Supplier<Watched> made : ALL) {
            for (int[] pair : wrongPairs(lampsOf(made))) {
                Check.refused(made, "look(" + pair[0] + ", " + pair[1] + ", 2)", x -> x.look(pair[0], pair[1], 2), -1);
            }
            Check.refused(made, "look(1, 0, -1)", x -> x.look(1, 0, -1), -1);
        }
    }

    private static void orderBelow() {
        Check.sentence("order: -4");
        for (Supplier<Watched> made : ALL) {
            Check.refused(made, "order(-1)", x -> x.order(-1), -4);
            Check.refused(made, "order(least)", x -> x.order(LEAST), -4);
        }
        for (Supplier<Watched> made : WITHOUT_LAMPS) {
            Check.answers(made, "order(0)", x -> x.order(0), -9);
        }
        Check.answers(FULL, "order(0)", x -> x.order(0), 0);
    }

    private static void orderSumWithoutLamps() {
        Check.sentence("orderSum: -3 there are no LAMPS");
        for (Supplier<Watched> made : WITHOUT_LAMPS) {
            Check.refused(made, "orderSum()", Watched::orderSum, -3);
        }
        Check.answers(() -> Check.with("p01,7;"), "orderSum() of one", Watched::orderSum, 7);
    }

    private static void toldNobody() {
        Check.sentence("told: -1");
        for (Supplier<Watched> made : List.of(EMPTY, USED, KINDS)) {
            for (int place : new int[] {-1, lampsOf(made), LEAST, GREATEST}) {
                Check.refused(made, "told(" + place + ", 0)", x -> x.told(place, 0), -1);
                Check.refused(made, "told(" + place + ", 1)", x -> x.told(place, 1), -1);
            }
        }
        Check.taken(KINDS, "told(0, 1)", x -> x.told(0, 1), 3);
        Check.taken(KINDS, "told(5, 0)", x -> x.told(5, 0), 3);
    }

    private static void toldOther() {
        Check.sentence("told: -2 another answer");
        for (int answer : new int[] {-1, 2, LEAST, GREATEST}) {
            Check.refused(KINDS, "told(0, " + answer + ")", x -> x.told(0, answer), -2);
            Check.refused(KINDS, "told(5, " + answer + ")", x -> x.told(5, answer), -2);
        }
        Check.taken(KINDS, "told(3, 0)", x -> x.told(3, 0), 3);
        Check.taken(KINDS, "told(3, 1)", x -> x.told(3, 1), 3);
    }

    private static Watched withLooks(int looks) {
        Watched x = Check.with("p01,1;p01,1;p01,1;");
        for (int k = 1; k <= looks; k++) {
            Check.due("told", x.told(k % 3, 1), k);
        }
        return x;
    }

    private static void toldRoom() {
        Check.sentence("told: -6 6");
        Check.taken(() -> withLooks(5), "the 6th", x -> x.told(2, 1), 6);
        for (int place = 0; place < 3; place++) {
            int at = place;
            Check.refused(() -> withLooks(6), "the 7th, 0", x -> x.told(at, 0), -6);
            Check.refused(() -> withLooks(6), "the 7th, 1", x -> x.told(at, 1), -6);
        }
        Check.refused(FULL, "the 7th of 12 LAMPS", x -> x.told(11, 1), -6);
    }

    private static void toldTwoFit() {
        Check.sentence("told: -1 ahead of -2 ahead of -6");
        for (Supplier<Watched> made : ALL) {
            int lamps = lampsOf(made);
            Check.refused(made, "told(-1, 2)", x -> x.told(-1, 2), -1);
            Check.refused(made, "told(all, -1)", x -> x.told(lamps, -1), -1);
        }
        Check.refused(FULL, "told(-1, 0), 6 are there", x -> x.told(-1, 0), -1);
        Check.refused(FULL, "told(12, 1), 6 are there", x -> x.told(12, 1), -1);
        Check.refused(FULL, "told(0, 2), 6 are there", x -> x.told(0, 2), -2);
        Check.refused(FULL, "told(11, -1), 6 are there", x -> x.told(11, -1), -2);
    }

    private static void nextOther() {
        Check.sentence("next: -2");
        for (Supplier<Watched> made : ALL) {
            for (int what : new int[] {-1, 2, LEAST, GREATEST}) {
                Check.refused(made, "next(" + what + ")", x -> x.next(what), -2);
            }
        }
        Check.answers(FULL, "next(0)", x -> x.next(0), 0);
        Check.answers(FULL, "next(1), HANGING in HOUR 3", x -> x.next(1), 3);
    }

    private static void bridgedBounds() {
        Check.sentence("bridged: -4; -6 12");
        for (Supplier<Watched> made : ALL) {
            Check.refused(made, "bridged(-1)", x -> x.bridged(-1), -4);
            Check.refused(made, "bridged(least)", x -> x.bridged(LEAST), -4);
            Check.refused(made, "bridged(13)", x -> x.bridged(13), -6);
            Check.refused(made, "bridged(greatest)", x -> x.bridged(GREATEST), -6);
            Check.answers(made, "bridged(0)", x -> x.bridged(0), 0);
            Check.answers(made, "bridged(12)", x -> x.bridged(12), -9);
        }
    }

    private static void stopWithoutLamps() {
        Check.sentence("stop: -3 there are no LAMPS");
        for (Supplier<Watched> made : WITHOUT_LAMPS) {
            Check.refused(made, "stop()", Watched::stop, -3);
        }
        Check.answers(() -> Check.with("p01,1;"), "stop() of one", Watched::stop, 0);
    }

    private static void lightBounds() {
        Check.sentence("light: -4; -6 200");
        for (Supplier<Watched> made : ALL) {
            Check.refused(made, "light(-1)", x -> x.light(-1), -4);
            Check.refused(made, "light(least)", x -> x.light(LEAST), -4);
            Check.refused(made, "light(201)", x -> x.light(201), -6);
            Check.refused(made, "light(greatest)", x -> x.light(GREATEST), -6);
            Check.answers(made, "light(0)", x -> x.light(0), 0);
        }
        for (Supplier<Watched> made : WITHOUT_LAMPS) {
            Check.answers(made, "light(200)", x -> x.light(200), 0);
        }
        // FLOW 191, BRIGHT 19 of each, till they hang in HOUR 3
        Check.answers(FULL, "light(200)", x -> x.light(200), 3 * 12 * 19);
    }

    private static void keepsBounds() {
        Check.sentence("keeps: -4; -6 200");
        for (Supplier<Watched> made : ALL) {
            Check.refused(made, "keeps(0)", x -> x.keeps(0), -4);
            Check.refused(made, "keeps(-1)", x -> x.keeps(-1), -4);
            Check.refused(made, "keeps(least)", x -> x.keeps(LEAST), -4);
            Check.refused(made, "keeps(201)", x -> x.keeps(201), -6);
            Check.refused(made, "keeps(greatest)", x -> x.keeps(GREATEST), -6);
        }
        for (Supplier<Watched> made : WITHOUT_LAMPS) {
            Check.answers(made, "keeps(1)", x -> x.keeps(1), 0);
            Check.answers(made, "keeps(200)", x -> x.keeps(200), 0);
        }
        Check.answers(KINDS, "keeps(1)", x -> x.keeps(1), 2);
        // from HOUR 1: HANGING in HOURS 3, 13, .. 193
        Check.answers(FULL, "keeps(200)", x -> x.keeps(200), 20 * 12);
    }

    private static void allAnewWithoutLamps() {
        Check.sentence("allAnew: -3 there are no LAMPS");
        for (Supplier<Watched> made : WITHOUT_LAMPS) {
            Check.refused(made, "allAnew()", Watched::allAnew, -3);
        }
        Check.answers(() -> Check.with("p01,1;u1;"), "allAnew() of one", Watched::allAnew, 50);
    }

    private static void twoOther() {
        Check.sentence("two: -2; of longs 4000000000000000000 less them");
        for (Supplier<Watched> made : List.of(KINDS, () -> Check.with("p01,1;"))) {
            for (int part : new int[] {-1, 2, LEAST, GREATEST}) {
                Check.refusedLong(made, "two(" + part + ")", x -> x.two(part), -2);
            }
        }
        Check.answers(() -> Check.with("p01,1;"), "two(0)", x -> x.two(0), 0);
        Check.answers(() -> Check.with("p01,1;"), "two(1)", x -> x.two(1), 1);
    }

    private static void twoWithoutLamps() {
        Check.sentence("two: -3 there are no LAMPS");
        for (Supplier<Watched> made : WITHOUT_LAMPS) {
            Check.refusedLong(made, "two(0)", x -> x.two(0), -3);
            Check.refusedLong(made, "two(1)", x -> x.two(1), -3);
        }
    }

    private static void twoRoom() {
        Check.sentence("two: -6 more than 8");
        for (int lamps = 9; lamps <= 12; lamps++) {
            int many = lamps;
            Check.refusedLong(() -> Check.withMany(many, "p01,1;", ""), "two(0)", x -> x.two(0), -6);
            Check.refusedLong(() -> Check.withMany(many, "p01,1;", ""), "two(1)", x -> x.two(1), -6);
        }
        Check.refusedLong(FULL, "two(1)", x -> x.two(1), -6);
        // none 0.99 ^ 8, just one 8 * 0.01 * 0.99 ^ 7, of 10 ^ 16
        long none = 9227446944279201L;
        long one = 745652278325592L;
        long below = 10000000000000000L - none;
        Check.answers(() -> Check.withMany(8, "p01,1;", ""), "two(0) of 8", x -> x.two(0), below - one);
        Check.answers(() -> Check.withMany(8, "p01,1;", ""), "two(1) of 8", x -> x.two(1), below);
    }

    private static void twoTwoFit() {
        Check.sentence("two: -2 ahead of -3 and of -6");
        for (int part : new int[] {-1, 2}) {
            for (Supplier<Watched> made : List.of(EMPTY, USED, FULL)) {
                Check.refusedLong(made, "two(" + part + ")", x -> x.two(part), -2);
            }
        }
    }

    private static void seedsBounds() {
        Check.sentence("seeds: -4; -6 50");
        for (Supplier<Watched> made : WITH_LAMPS) {
            Check.refused(made, "seeds(0, 1)", x -> x.seeds(0, 1), -4);
            Check.refused(made, "seeds(-1, 1)", x -> x.seeds(-1, 1), -4);
            Check.refused(made, "seeds(least, least)", x -> x.seeds(LEAST, LEAST), -4);
            Check.refused(made, "seeds(51, 1)", x -> x.seeds(51, 1), -6);
            Check.refused(made, "seeds(greatest, greatest)", x -> x.seeds(GREATEST, GREATEST), -6);
        }
        Check.answers(() -> Check.with("p099,1;u1;"), "seeds(1, least)", x -> x.seeds(1, LEAST), 1);
        Check.answers(() -> Check.with("p099,1;u1;"), "seeds(50, greatest)", x -> x.seeds(50, GREATEST), 1);
    }

    private static void seedsWithoutLamps() {
        Check.sentence("seeds: -3 there are no LAMPS");
        for (Supplier<Watched> made : WITHOUT_LAMPS) {
            Check.refused(made, "seeds(1, 1)", x -> x.seeds(1, 1), -3);
            Check.refused(made, "seeds(50, 0)", x -> x.seeds(50, 0), -3);
        }
    }

    private static void seedsTwoFit() {
        Check.sentence("seeds: -4 and -6 ahead of -3");
        for (Supplier<Watched> made : WITHOUT_LAMPS) {
            Check.refused(made, "seeds(0, 1)", x -> x.seeds(0, 1), -4);
            Check.refused(made, "seeds(least, 1)", x -> x.seeds(LEAST, 1), -4);
            Check.refused(made, "seeds(51, 1)", x -> x.seeds(51, 1), -6);
            Check.refused(made, "seeds(greatest, 1)", x -> x.seeds(GREATEST, 1), -6);
        }
    }

    private static void restoreWithoutImage() {
        Check.sentence("restore: -3 there is none");
        Check.refused(EMPTY, "restore()", Watched::restore, -3);
        Check.refused(() -> Check.with("p099,1;u1;"), "restore()", Watched::restore, -3);
        Check.taken(USED, "restore()", Watched::restore, 0);
        Check.taken(KINDS, "restore()", Watched::restore, 1);
    }

    private static void minusNineIsNoRefusal() {
        Check.sentence("-9 is no refusal");
        Check.answers(KINDS, "look(2, 2, 0)", x -> x.look(2, 2, 0), -9);
        Check.answers(KINDS, "look(2, 2, 1)", x -> x.look(2, 2, 1), -9);
        Check.answers(KINDS, "order(6)", x -> x.order(6), -9);
        Check.answers(KINDS, "order(greatest)", x -> x.order(GREATEST), -9);
        Check.taken(KINDS, "judge()", Watched::judge, -9);
        Check.answers(() -> Check.with("p099,1;u1;"), "lasts()", Watched::lasts, -9);
        Check.answers(EMPTY, "next(0)", x -> x.next(0), -9);
        Check.answers(EMPTY, "next(1)", x -> x.next(1), -9);
        Check.answers(KINDS, "bridged(3)", x -> x.bridged(3), -9);
        Check.answers(() -> Check.with("p01,1;u1;"), "stop()", Watched::stop, -9);
        for (int what : new int[] {-1, 10, 17, LEAST, GREATEST}) {
            for (Supplier<Watched> made : ALL) {
                Check.answers(made, "count(" + what + ")", x -> x.count(what), -9);
            }
        }
    }

    private static void faultsAreNoRefusals() {
        Check.sentence("string: the FAULT (nothing is counted)");
        String[] texts = {"", "x", "p", "p61,1;", "u0;", "d0,1;", "g0;"};
        int[] faults = {-1000, -1000, -1001, -2000, -2000, -2000, -2000};
        for (int k = 0; k < texts.length; k++) {
            String text = texts[k];
            Check.taken(EMPTY, "string of '" + text + "'", x -> Check.tell(x, text), faults[k]);
        }
    }

    private static void manyRefusals() {
        Check.sentence("how many there were: each is counted, -5 never");
        Watched x = new Watched();
        for (int k = 1; k <= 9; k++) {
            x.finder(0);
            Check.due("-1", x.count(11), k);
        }
        for (int k = 1; k <= 8; k++) {
            x.two(2);
            Check.due("-2", x.count(12), k);
        }
        for (int k = 1; k <= 7; k++) {
            x.two(0);
            Check.due("-3", x.count(13), k);
        }
        for (int k = 1; k <= 6; k++) {
            x.keeps(0);
            Check.due("-4", x.count(14), k);
        }
        for (int k = 1; k <= 5; k++) {
            x.keeps(201);
            Check.due("-6", x.count(16), k);
        }
        int[] due = {9, 8, 7, 6, 0, 5};
        for (int k = 0; k < 6; k++) {
            Check.due("count(" + (11 + k) + ")", x.count(11 + k), due[k]);
        }
    }
}
