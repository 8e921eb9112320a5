/** Promises 29 to 31: the image, restoring it, counts. */
final class KeepTest {
    private KeepTest() {
    }

    public static void main(String[] args) {
        images();
        newLampsAreNew();
        counts();
        refusals();
        Check.close("KeepTest");
    }

    private static void images() {
        Watched x = new Watched();
        Check.refused(x, "restore() without an image", x::restore, -3);
        Check.tell(x, "p02,1;p29,2;g7;");
        x.set(1, 9);
        x.set(2, 77);
        x.hour();
        Check.due("image", x.image(), 1);
        String before = Check.stateOf(x);
        x.hour();
        x.hour();
        Check.tell(x, "p11,1;u9;g2;d1,3;");
        x.swap(0);
        x.set(2, 5);
        Check.due("restore", x.restore(), 1);
        Check.same("state", Check.stateOf(x), before);
        x.hour();
        Check.due("restore again", x.restore(), 1);
        Check.same("state", Check.stateOf(x), before);
        x.hour();
        Check.due("a later image", x.image(), 2);
        x.hour();
        Check.due("is the one that is restored", x.restore(), 2);
        // letters, told looks and REFUSALS are no part of it
        x.feed('u');
        x.told(1, 1);
        x.touch(-1);
        x.restore();
        Check.due("letters", x.count(7), 1);
        Check.due("told looks", x.count(8), 1);
        Check.due("NOBODY", x.count(11), 1);
        Check.due("STATE", x.count(13), 1);
    }

    /** A lamp that comes where one of a row that is gone was. */
    private static void newLampsAreNew() {
        Watched x = new Watched();
        Check.due("image at HOUR 0", x.image(), 0);
        Check.tell(x, "p01,1;");
        Check.due("it dies in mind", x.lasts(), 1);
        Check.due("it dies", x.hour(), 1);
        Check.due("restore", x.restore(), 0);
        Check.tell(x, "p01,1;");
        Check.due("WELL", x.lamp(0, 4), 0);
        Check.due("HURT", x.lamp(0, 3), 0);
    }

    private static void counts() {
        Watched x = Check.with("p099,1;p099,1;p099,1;p099,1;p099,1;p099,1;u600;");
        Check.due("LIVE", x.count(6), 1);
        x.hour();
        Check.tell(x, "d0,1;d1,2;d2,2;d3,3;d4,3;");
        x.feed('p');
        x.told(0, 1);
        x.told(1, 1);
        x.told(2, 1);
        int[] due = {6, 1, 1, 2, 2, 1, 0, 1, 3, 60, -9};
        for (int what = 0; what < due.length; what++) {
            Check.due("count(" + what + ")", x.count(what), due[what]);
        }
        Check.due("count(17)", x.count(17), -9);
        Check.due("count(-1)", x.count(-1), -9);
        Check.due("count(least)", x.count(Integer.MIN_VALUE), -9);
        Check.due("count(greatest)", x.count(Integer.MAX_VALUE), -9);
    }

    private static void refusals() {
        Watched x = new Watched();
        x.lamp(0, 0);
        x.set(4, 0);
        x.set(5, 0);
        for (int i = 0; i < 3; i++) {
            x.stop();
        }
        for (int i = 0; i < 4; i++) {
            x.light(-1);
        }
        for (int i = 0; i < 6; i++) {
            x.light(201);
        }
        x.count(10);
        x.order(0);
        x.string();
        int[] due = {1, 2, 3, 4, 0, 6};
        for (int k = 0; k < due.length; k++) {
            Check.due("count(" + (11 + k) + ")", x.count(11 + k), due[k]);
        }
    }
}
