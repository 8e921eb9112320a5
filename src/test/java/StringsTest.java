/** Promises 1 to 6: a new object, letters, STRINGS, lamps, settings, flow. */
final class StringsTest {
    private StringsTest() {
    }

    public static void main(String[] args) {
        newObject();
        letters();
        strings();
        faultsOfForm();
        faultsOfSense();
        faultsChangeNothing();
        lamps();
        settings();
        flows();
        Check.close("StringsTest");
    }

    private static void newObject() {
        Watched x = new Watched();
        for (int what = 0; what <= 9; what++) {
            Check.due("new: count(" + what + ")", x.count(what), 0);
        }
        for (int what = 11; what <= 16; what++) {
            Check.due("new: count(" + what + ")", x.count(what), 0);
        }
        Check.due("new: PUSH", x.set(0, 1), 230);
        Check.due("new: SPARES", x.set(1, 1), 3);
        Check.due("new: LIMIT", x.set(2, 1), 100);
        Check.due("new: GRIP", x.set(3, 1), 3);
    }

    private static void letters() {
        Watched x = new Watched();
        Check.refused(x, "feed(-1)", () -> x.feed(-1), -4);
        Check.refused(x, "feed(least)", () -> x.feed(Integer.MIN_VALUE), -4);
        Check.refused(x, "feed(256)", () -> x.feed(256), -6);
        Check.due("feed(0)", x.feed(0), 1);
        Check.due("feed(255)", x.feed(255), 2);
        for (int i = 3; i <= 64; i++) {
            Check.due("feed", x.feed('u'), i);
        }
        Check.refused(x, "feed the 65th", () -> x.feed('u'), -6);
        Check.refused(x, "feed(-1), full", () -> x.feed(-1), -4);
        Check.due("letters", x.count(7), 64);
        Check.due("string()", x.string(), -1000);
        Check.due("no letters then", x.count(7), 0);
        Check.due("feed(117)", x.feed('u'), 1);
    }

    private static void strings() {
        Watched x = new Watched();
        Check.due("4 statements", Check.tell(x, "p01,1;u7;d0,1;g9;"), 4);
        Check.due("LAMPS", x.count(0), 1);
        Check.due("OPEN", x.lamp(0, 4), 1);
        Check.due("GRIP", x.set(3, 1), 9);
        Check.due("PUSH", x.set(0, 1), 7);
        Check.due("a lamp more", Check.tell(x, "p599,9;"), 1);
        Check.due("LAMPS", x.count(0), 2);
        Check.due("numbers with 0 ahead", Check.tell(x, "p105,2;u009;d02,3;"), 3);
        Check.due("LIFE", x.lamp(2, 1), 5);
        Check.due("PUSH", x.set(0, 1), 9);
        Check.due("HANGING", x.lamp(2, 4), 3);
        String long63 = "u100;u100;u100;u100;u100;u100;u100;u100;u100;u100;u100;u10;u10;";
        Check.due("63 letters", Check.tell(x, long63), 13);
        String twelve = "p01,1;p01,1;p01,1;p01,1;p01,1;p01,1;p01,1;p01,1;p01,1;";
        Check.due("up to 12 lamps", Check.tell(x, twelve), 9);
        Check.due("d of the last", Check.tell(x, "d11,2;"), 1);
        Check.due("a 13th", Check.tell(x, "u5;p01,1;"), -2003);
        Check.due("LAMPS", x.count(0), 12);
    }

    private static void faultsOfForm() {
        Watched x = new Watched();
        Check.tell(x, "p01,1;");
        String[] texts = {"", "x", ";", "p", "p0", "p0,", "p01", "p012,", "p0123", "p01,12", "p01,1", "p01,1;;",
            "p01,x", "px", "P01,1;", "u", "ux", "u;", "u1000;", "u1", "d", "d0", "d000,1;", "d0;", "d0,", "d0,12;",
            "d0,1", "d-1,0;", "g", "g12;", "g;", "g1", "u1;u", "u1; u1;", "g0;x", "d9,9;g", "p01;1;"};
        int[] places = {0, 0, 0, 1, 2, 2, 3, 5, 4, 5, 5, 6,
            4, 1, 0, 1, 1, 1, 4, 2, 1, 2, 3, 2, 3, 4,
            4, 1, 1, 2, 1, 2, 4, 3, 3, 6, 3};
        for (int i = 0; i < texts.length; i++) {
            Check.due("string of '" + texts[i] + "'", Check.tell(x, texts[i]), -1000 - places[i]);
            Check.due("no letters then", x.count(7), 0);
        }
        StringBuilder full = new StringBuilder();
        for (int i = 0; i < 21; i++) {
            full.append("g1;");
        }
        Check.due("64 letters, one too few", Check.tell(x, full.append('g').toString()), -1064);
    }

    private static void faultsOfSense() {
        Watched x = new Watched();
        String[] texts = {"p61,1;", "p91,1;", "p00,1;", "p000,1;", "p01,0;", "u0;", "u000;", "d0,0;", "g0;",
            "p01,1;d1,0;", "p01,1;d0,4;", "p01,1;d0,9;", "d0,1;p01,1;", "u1;g0;u0;", "p01,1;p01,0;x0;"};
        int[] faults = {-2000, -2000, -2000, -2000, -2000, -2000, -2000, -2000, -2000,
            -2006, -2006, -2006, -2000, -2003, -1012};
        for (int i = 0; i < texts.length; i++) {
            Check.due("string of '" + texts[i] + "'", Check.tell(x, texts[i]), faults[i]);
            Check.due("no LAMPS", x.count(0), 0);
        }
    }

    private static void faultsChangeNothing() {
        Watched x = Check.with("p29,2;u50;");
        String before = Check.stateOf(x);
        Check.due("fault behind good ones", Check.tell(x, "p01,1;u9;g9;d0,1;d5,1;"), -2017);
        Check.same("state", Check.stateOf(x), before);
        for (int what = 11; what <= 16; what++) {
            Check.due("a FAULT is no refusal", x.count(what), 0);
        }
    }

    private static void lamps() {
        Watched x = Check.with("p08,1;p17,2;p26,3;p35,4;p44,5;p53,6;");
        int[] drags = {10, 10, 10, 15, 6, 20};
        // 23000 by 71 is 323
        int[] brights = {32, 32, 32, 48, 19, 64};
        int[] likely = {1, 1, 4, 4, 1, 1};
        for (int i = 0; i < 6; i++) {
            Check.due("KIND", x.lamp(i, 0), i);
            Check.due("LIFE", x.lamp(i, 1), 8 - i);
            Check.due("MINUTES", x.lamp(i, 2), i + 1);
            Check.due("HURT", x.lamp(i, 3), 0);
            Check.due("WELL", x.lamp(i, 4), 0);
            Check.due("DRAG", x.lamp(i, 5), drags[i]);
            Check.due("BRIGHT", x.lamp(i, 6), brights[i]);
            Check.due("LIKELY", x.lamp(i, 7), likely[i]);
        }
        Check.refused(x, "lamp(-1, 0)", () -> x.lamp(-1, 0), -1);
        Check.refused(x, "lamp(6, 9)", () -> x.lamp(6, 9), -1);
        Check.refused(x, "lamp(0, -1)", () -> x.lamp(0, -1), -2);
        Check.refused(x, "lamp(5, 8)", () -> x.lamp(5, 8), -2);
        Check.tell(x, "d0,2;");
        Check.due("DRAG of a BRIDGED one", x.lamp(0, 5), 0);
        Check.due("BRIGHT of a BRIDGED one", x.lamp(0, 6), 0);
        Check.due("BRIGHT, 23000 by 61 is 377", x.lamp(1, 6), 37);
        Check.tell(x, "d3,1;");
        Check.due("DRAG of an OPEN one", x.lamp(3, 5), 15);
        Check.due("BRIGHT, not LIVE", x.lamp(1, 6), 0);
    }

    private static void settings() {
        Watched x = new Watched();
        int[] least = {1, 0, 1, 1};
        int[] greatest = {999, 99, 999, 9};
        int[] first = {230, 3, 100, 3};
        for (int i = 0; i < 4; i++) {
            int what = i;
            Check.refused(x, "set below", () -> x.set(what, least[what] - 1), -4);
            Check.refused(x, "set above", () -> x.set(what, greatest[what] + 1), -6);
            Check.due("set the least", x.set(what, least[what]), first[what]);
            Check.due("set the greatest", x.set(what, greatest[what]), least[what]);
            Check.due("set again", x.set(what, greatest[what]), greatest[what]);
        }
        Check.refused(x, "set(-1, 5)", () -> x.set(-1, 5), -2);
        Check.refused(x, "set(4, -5)", () -> x.set(4, -5), -2);
    }

    private static void flows() {
        Watched x = new Watched();
        Check.due("no LAMPS", x.flow(), 0);
        Check.tell(x, "p01,1;");
        Check.due("23000 by 10", x.flow(), 2300);
        Check.tell(x, "p31,1;");
        Check.due("23000 by 25", x.flow(), 920);
        Check.tell(x, "d1,3;");
        Check.due("one hangs", x.flow(), 0);
        Check.tell(x, "d1,1;");
        Check.due("one is open", x.flow(), 0);
        Check.tell(x, "d1,2;");
        Check.due("one is bridged", x.flow(), 2300);
        Check.tell(x, "d0,2;");
        Check.due("all are bridged", x.flow(), 0);
        Check.due("all are bridged", x.count(6), 0);
        Watched y = Check.with("p499,1;u999;");
        Check.due("9999 at most", y.flow(), 9999);
        Check.due("BRIGHT of that", y.lamp(0, 6), 599);
        Watched z = Check.with("p51,1;p51,1;p51,1;p51,1;p51,1;p51,1;u1;");
        Check.due("cut to 0", z.flow(), 0);
        Check.due("LIVE all the same", z.count(6), 1);
    }
}
