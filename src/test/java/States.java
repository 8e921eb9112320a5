/** Objects that the edge tests begin with; each call makes a new one, all of one name being alike. */
final class States {
    static final int LEAST = Integer.MIN_VALUE;
    static final int GREATEST = Integer.MAX_VALUE;

    private States() {
    }

    static Watched empty() {
        return new Watched();
    }

    /** No LAMPS, but letters, SETTINGS, HOURS, REFUSALS, and an image that is not as all is now. */
    static Watched usedWithoutLamps() {
        Watched x = new Watched();
        refuseOnce(x);
        x.set(0, 77);
        x.image();
        x.set(1, 5);
        x.set(2, 66);
        x.hour();
        Check.feed(x, "g7;");
        return x;
    }

    /** Six LAMPS, one of each KIND, and something of all that there may be. */
    static Watched ofAllKinds() {
        Watched x = new Watched();
        refuseOnce(x);
        Check.tell(x, "p020,3;p110,2;p230,5;p340,1;p499,4;p512,6;");
        x.set(1, 4);
        x.hour();
        x.image();
        x.hour();
        x.set(2, 50);
        Check.tell(x, "d1,2;d3,3;u150;");
        x.told(4, 0);
        x.told(2, 1);
        Check.feed(x, "g7;");
        return x;
    }

    /** 12 LAMPS, 64 letters, 6 told looks; no SPARES. */
    static Watched full() {
        Watched x = Check.withMany(12, "p250,2;", "");
        x.set(1, 0);
        x.image();
        x.hour();
        for (int k = 0; k < 6; k++) {
            x.told(k, 1);
        }
        Check.feed(x, "u100;".repeat(11) + "g5;g6;g7;");
        return x;
    }

    /** One refusal of each number. */
    private static void refuseOnce(Watched x) {
        x.touch(0);
        x.set(9, 9);
        x.restore();
        x.feed(-1);
        x.feed(256);
    }
}
