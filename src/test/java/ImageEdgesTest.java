import java.util.function.Consumer;

/** "THE IMAGE", and promises 1, 29, 30, 31: what it holds and what not; counts; the empty and the full object. */
final class ImageEdgesTest {
    private ImageEdgesTest() {
    }

    public static void main(String[] args) {
        imageHolds();
        imageHoldsNoLetters();
        imageHoldsNoToldLooks();
        imageHoldsNoRefusals();
        imageHoldsNoImage();
        imageIsAsItWasTaken();
        imageOfNothing();
        imageOfAll();
        theLatestImage();
        imageChangesNothing();
        noneTakenYet();
        lookBehindTheLast();
        counts();
        countsOfEachCondition();
        countsOfAllHurt();
        countOfAnother();
        theEmptyObject();
        theFullObject();
        Check.close("ImageEdgesTest");
    }

    private static Watched begun() {
        Watched x = Check.with("p230,2;p340,3;p110,4;u60;g8;");
        x.set(1, 9);
        x.set(2, 55);
        x.hour();
        return x;
    }

    private static void imageHolds() {
        Check.sentence("THE IMAGE: all that there is");
        String[] names = {"LAMPS", "WELL", "HURT and HOUR", "HURT of a swapped one", "PUSH", "SPARES", "LIMIT", "GRIP",
            "a touched one"};
        Consumer<?>[] changes = {
            (Watched x) -> Check.tell(x, "p01,1;"), (Watched x) -> Check.tell(x, "d0,1;d1,2;d2,3;"),
            (Watched x) -> x.hour(), (Watched x) -> x.swap(2), (Watched x) -> x.set(0, 7), (Watched x) -> x.set(1, 7),
            (Watched x) -> x.set(2, 7), (Watched x) -> x.set(3, 7), (Watched x) -> Check.tell(x, "g2;d0,3;")};
        String due = Check.stateOf(begun());
        for (int k = 0; k < names.length; k++) {
            @SuppressWarnings("unchecked")
            Consumer<Watched> change = (Consumer<Watched>) changes[k];
            Watched x = begun();
            Check.due("image: HOUR", x.image(), 1);
            change.accept(x);
            Check.due(names[k] + " changed", Check.stateOf(x).equals(due) ? 1 : 0, 0);
            Check.due("restore: HOUR", x.restore(), 1);
            Check.same(names[k] + " behind restore", Check.stateOf(x), due);
        }
    }

    private static void imageHoldsNoLetters() {
        Check.sentence("THE IMAGE: but letters");
        Watched x = begun();
        Check.feed(x, "u4");
        x.image();
        Check.due("a letter more", x.feed('2'), 3);
        Check.due("restore", x.restore(), 1);
        Check.due("letters stay", x.count(7), 3);
        Check.due("and go on", x.feed(';'), 4);
        Check.due("as they are", x.string(), 1);
        Check.due("PUSH", x.set(0, 1), 42);
        x.restore();
        Check.due("letters that were there when it was taken stay away", x.count(7), 0);
    }

    private static void imageHoldsNoToldLooks() {
        Check.sentence("THE IMAGE: but told looks");
        Watched x = begun();
        x.told(1, 1);
        x.image();
        x.told(2, 0);
        x.restore();
        Check.due("told looks stay", x.count(8), 2);
        Check.due("as they are", x.openTo(), 2);
        x.judge();
        x.restore();
        Check.due("those that were there when it was taken stay away", x.count(8), 0);
        Check.due("all are open", x.openTo(), 7);
    }

    private static void imageHoldsNoRefusals() {
        Check.sentence("THE IMAGE: but REFUSALS");
        Watched x = begun();
        x.touch(9);
        x.image();
        x.touch(9);
        x.set(9, 9);
        x.feed(-1);
        x.feed(256);
        x.set(1, 0);
        x.swap(0);
        x.restore();
        int[] due = {2, 1, 1, 1, 0, 1};
        for (int k = 0; k < 6; k++) {
            Check.due("REFUSALS " + (-1 - k), x.count(11 + k), due[k]);
        }
    }

    private static void imageHoldsNoImage() {
        Check.sentence("THE IMAGE: but it");
        Watched x = begun();
        String due = Check.stateOf(x);
        x.image();
        for (int k = 0; k < 3; k++) {
            Check.tell(x, "d0,1;u3;");
            x.hour();
            Check.due("restore, time " + k, x.restore(), 1);
            Check.same("all, time " + k, Check.stateOf(x), due);
        }
    }

    private static void imageIsAsItWasTaken() {
        Check.sentence("It is RESTORED: what is done then does not change the image");
        Watched x = Check.with("p099,1;u100;");
        x.image();
        x.restore();
        x.hour();
        x.set(0, 200);
        Check.tell(x, "d0,1;p01,1;");
        x.restore();
        Check.due("HURT", x.lamp(0, 3), 0);
        Check.due("WELL", x.lamp(0, 4), 0);
        Check.due("LAMPS", x.count(0), 1);
        Check.due("PUSH", x.set(0, 1), 100);
        Check.due("HOUR", x.count(5), 0);
    }

    private static void imageOfNothing() {
        Check.sentence("THE IMAGE of an object without LAMPS");
        Watched x = new Watched();
        Check.due("image", x.image(), 0);
        Check.tell(x, "p299,9;p099,9;u100;");
        x.hour();
        Check.tell(x, "d0,1;");
        Check.due("restore", x.restore(), 0);
        Check.due("LAMPS", x.count(0), 0);
        Check.due("lamp(0, 0)", x.lamp(0, 0), -1);
        Check.due("a new lamp", Check.tell(x, "p15,2;"), 1);
        int[] due = {1, 5, 2, 0, 0, 10, 230, 1};
        for (int what = 0; what < due.length; what++) {
            Check.due("lamp(0, " + what + ")", x.lamp(0, what), due[what]);
        }
    }

    private static void imageOfAll() {
        Check.sentence("THE IMAGE of 12 LAMPS");
        Watched x = States.full();
        Check.due("image", x.image(), 1);
        x.hour();
        Check.due("restore", x.restore(), 1);
        Check.same("all", Check.everythingOf(x), Check.everythingOf(imaged(States.full())));
        Watched y = new Watched();
        y.image();
        Check.tell(y, "p01,1;".repeat(10));
        Check.tell(y, "p01,1;".repeat(2));
        y.restore();
        Check.due("LAMPS", y.count(0), 0);
        Check.due("10 have room again", Check.tell(y, "p02,1;".repeat(10)), 10);
        Check.due("and 2", Check.tell(y, "p02,1;".repeat(2)), 2);
        Check.due("a 13th has none", Check.tell(y, "p02,1;"), -2000);
    }

    private static Watched imaged(Watched x) {
        x.image();
        return x;
    }

    private static void theLatestImage() {
        Check.sentence("image: THE IMAGE is taken: HOUR");
        Watched x = Check.with("p099,1;u1;");
        for (int h = 0; h < 5; h++) {
            Check.due("image: HOUR", x.image(), h);
            x.hour();
        }
        x.hour();
        Check.due("restore: HOUR of the latest", x.restore(), 4);
        Check.due("HOUR", x.count(5), 4);
    }

    private static void imageChangesNothing() {
        Check.sentence("image: changes nothing but the image");
        Watched x = States.ofAllKinds();
        String before = Check.stateOf(x);
        x.image();
        Check.same("all", Check.stateOf(x), before);
    }

    private static void noneTakenYet() {
        Check.sentence("restore: -3 there is none");
        Watched x = Check.with("p099,1;u1;");
        x.hour();
        Check.refused(x, "restore()", x::restore, -3);
        Check.due("HOUR", x.count(5), 1);
        Check.due("image", x.image(), 1);
        Check.due("restore", x.restore(), 1);
        Check.due("REFUSALS -3", x.count(13), 1);
    }

    /** A restored row may be shorter than that of which looks were told. */
    private static void lookBehindTheLast() {
        Check.sentence("told looks stay, though their LAMPS are no more there");
        Watched x = Check.with("p01,1;p01,1;");
        x.image();
        Check.tell(x, "p01,1;p01,1;");
        x.told(3, 0);
        Check.due("0, 1, 2", x.openTo(), 7);
        x.restore();
        Check.due("0, 1", x.openTo(), 3);
        Check.due("judge", x.judge(), -9);
        Watched y = Check.with("p01,1;p01,1;");
        y.image();
        Check.tell(y, "p01,1;p01,1;");
        y.told(0, 1);
        y.told(3, 1);
        Check.due("3", y.openTo(), 8);
        y.restore();
        Check.due("none is left", y.openTo(), 0);
        Check.due("judge", y.judge(), 1);
    }

    private static void counts() {
        Check.sentence("count: 0 LAMPS .. 9 all HURT, 11 .. 16 REFUSALS -1 .. -6");
        Watched x = States.ofAllKinds();
        int hurt = 0;
        for (int i = 0; i < 6; i++) {
            hurt += x.lamp(i, 3);
        }
        int[] due = {6, 4, 0, 1, 1, 2, 0, 3, 2, hurt, -9, 1, 1, 1, 1, 0, 1, -9};
        for (int what = 0; what < due.length; what++) {
            Check.due("count(" + what + ")", x.count(what), due[what]);
        }
        x.touch(3);
        Check.due("count(6), LIVE", x.count(6), 1);
    }

    private static void countsOfEachCondition() {
        Check.sentence("count: 1 WELL ones, 2 OPEN ones, 3 BRIDGED ones, 4 HANGING ones");
        for (int how = 0; how <= 3; how++) {
            Watched x = Check.withMany(12, "p01,1;", "");
            for (int many = 0; many < 12; many++) {
                Check.tell(x, "d" + many + "," + how + ";");
            }
            for (int what = 1; what <= 4; what++) {
                Check.due("12 are " + how + ": count(" + what + ")", x.count(what), what == how + 1 ? 12 : 0);
            }
        }
    }

    private static void countsOfAllHurt() {
        Check.sentence("count: 9 all HURT");
        Watched x = Check.with("p099,1;p199,1;p299,1;p599,1;u500;g9;");
        Check.due("at first", x.count(9), 0);
        x.hour();
        Check.due("10, 10, 10, 20", x.count(9), 50);
        Check.tell(x, "d0,1;d1,2;d2,3;");
        Check.due("of those that are not WELL, too", x.count(9), 50);
        x.swap(3);
        Check.due("one is new", x.count(9), 30);
    }

    private static void countOfAnother() {
        Check.sentence("count: -9 for another what");
        for (Watched x : new Watched[] {States.empty(), States.ofAllKinds(), States.full()}) {
            for (int what : new int[] {States.LEAST, -100, -9, -2, -1, 10, 17, 18, 26, 100, States.GREATEST}) {
                Check.due("count(" + what + ")", x.count(what), -9);
            }
            for (int what = 0; what <= 16; what++) {
                if (what != 10) {
                    Check.due("count(" + what + ") is there", x.count(what) >= 0 ? 1 : 0, 1);
                }
            }
        }
    }

    private static void theEmptyObject() {
        Check.sentence("OneLampAllOut(): No LAMPS");
        Watched x = new Watched();
        long[] got = {x.count(0), x.flow(), x.count(6), x.hour(), x.lasts(), x.next(0), x.next(1), x.bridged(0),
            x.bridged(1), x.bridged(12), x.light(0), x.light(200), x.keeps(1), x.keeps(200), x.joined(), x.order(0),
            x.openTo(), x.judge(), x.string(), x.count(9), x.image(), x.restore()};
        long[] due = {0, 0, 0, 0, 0, -9, -9, 0, -9, -9, 0, 0, 0, 0, 0, -9, 0, -9, -1000, 0, 1, 1};
        for (int k = 0; k < due.length; k++) {
            Check.due("no LAMPS, call " + k, got[k], due[k]);
        }
        for (int what = 11; what <= 16; what++) {
            Check.due("none of them was refused", x.count(what), 0);
        }
    }

    private static void theFullObject() {
        Check.sentence("12 LAMPS, 64 letters, 6 told looks");
        Watched x = States.full();
        // FLOW 191, BRIGHT 19, HURT 1 of each; all hang in HOUR 3; weight 4, MINUTES 2 of each
        long[] got = {x.count(0), x.count(7), x.count(8), x.flow(), x.lamp(11, 6), x.count(9), x.lasts(), x.next(0),
            x.next(1), x.light(3), x.light(4), x.keeps(3), x.keeps(4), x.allAnew(), x.stop(), x.joined(),
            x.find(0, 11, 0), x.find(0, 11, 1), x.orderSum(), x.order(11), x.order(12), x.openTo(), x.judge(),
            x.seeds(1, 1), x.seeds(2, 1), x.seeds(3, 1), x.meter(0, 11), x.finder(11), x.touch(11), x.meter(0, 11),
            x.meter(0, 10), x.finder(11), x.string(), x.set(0, 1), x.set(3, 1), x.count(7)};
        long[] due = {12, 64, 6, 191, 19, 12, 3, 0,
            3, 684, 684, 0, 12, 1, 0, 5,
            352, 8, 624, 11, -9, 0xfe0, -9,
            11, 10, 0, 1, 1, 3, 0,
            1, 1, 14, 100, 7, 0};
        for (int k = 0; k < due.length; k++) {
            Check.due("full, call " + k, got[k], due[k]);
        }
    }
}
