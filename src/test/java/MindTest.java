/** Promises 19 to 28: what would come, in mind. */
final class MindTest {
    private MindTest() {
    }

    public static void main(String[] args) {
        oneLamp();
        lastsAndNext();
        nextOfSeveral();
        bridged();
        stops();
        light();
        keeps();
        allAnew();
        joined();
        two();
        seeds();
        fullRow();
        nothingComesOfIt();
        Check.close("MindTest");
    }

    /** FLOW 2300, BRIGHT 230, HURT 23 each HOUR: it is OPEN after 5. */
    private static void oneLamp() {
        Watched x = Check.with("p010,1;");
        Check.due("lasts", x.lasts(), 5);
        Check.due("next(0)", x.next(0), 0);
        Check.due("next(1)", x.next(1), 5);
        Check.due("light(0)", x.light(0), 0);
        Check.due("light(3)", x.light(3), 690);
        Check.due("light(200)", x.light(200), 1150);
        Check.due("keeps(5)", x.keeps(5), 0);
        Check.due("keeps(6)", x.keeps(6), 1);
        Check.due("keeps(200)", x.keeps(200), 39);
        Check.due("allAnew", x.allAnew(), 5);
        x.hour();
        x.hour();
        Check.due("lasts, from now", x.lasts(), 3);
        Check.due("next, from now", x.next(1), 3);
        Check.due("allAnew, all new first", x.allAnew(), 5);
        x.hour();
        x.hour();
        x.hour();
        Check.due("lasts 0", x.lasts(), 0);
        Check.due("next: none is WELL", x.next(0), -9);
        Check.due("light", x.light(9), 0);
        Check.due("keeps", x.keeps(1), 1);
    }

    private static void lastsAndNext() {
        // BRIGHT 10, HURT 1 each HOUR
        Watched x = Check.with("p040,1;u10;");
        Check.due("lasts 400", x.lasts(), 400);
        Check.due("next 400", x.next(1), 400);
        Check.due("next 0", x.next(0), 0);
        Watched y = Check.with("p041,1;u10;");
        Check.due("lasts above 400", y.lasts(), -9);
        Check.due("next above 400", y.next(1), -9);
        Check.due("next above 400", y.next(0), -9);
        for (int h = 0; h < 9; h++) {
            y.hour();
        }
        Check.due("lasts 401", y.lasts(), -9);
        Check.due("next 401", y.next(1), -9);
        y.hour();
        Check.due("lasts 400, from now", y.lasts(), 400);
        Check.due("next 400, from now", y.next(1), 400);
        Check.refused(y, "next(2)", () -> y.next(2), -2);
        Check.refused(y, "next(-1)", () -> y.next(-1), -2);
        Watched empty = new Watched();
        Check.due("no LAMPS last", empty.lasts(), 0);
        Check.due("no LAMPS next", empty.next(1), -9);
    }

    private static void nextOfSeveral() {
        Watched x = Check.with("p05,1;p02,1;p12,1;p02,1;u400;d0,2;");
        // FLOW 40000 by 30 is 1333, BRIGHT 133, HURT 13: 26 after two
        Check.due("which", x.next(0), 1);
        Check.due("when", x.next(1), 2);
        Check.tell(x, "d1,1;");
        Check.due("not LIVE, none goes", x.next(0), -9);
        Check.tell(x, "p299,1;");
        Check.due("a LOOSE one goes by the clock", x.next(0), 4);
        Check.due("in HOUR 3", x.next(1), 4);
    }

    private static void bridged() {
        Watched x = Check.with("p110,1;p120,1;p599,1;u400;");
        // FLOW 1000, HURT 10 and 10; the second: 100 at 10, then FLOW 1333, HURT 13 each
        Check.due("bridged(0)", x.bridged(0), 0);
        Check.due("bridged(1)", x.bridged(1), 10);
        Check.due("bridged(2)", x.bridged(2), 18);
        Check.due("bridged(12)", x.bridged(12), -9);
        Check.refused(x, "bridged(-1)", () -> x.bridged(-1), -4);
        Check.refused(x, "bridged(13)", () -> x.bridged(13), -6);
        Check.tell(x, "d2,2;");
        Check.due("one is now", x.bridged(1), 0);
        Watched y = Check.with("p140,1;u10;");
        Check.due("after 400", y.bridged(1), 400);
        Watched z = Check.with("p141,1;u10;");
        for (int h = 0; h < 9; h++) {
            z.hour();
        }
        Check.due("after 401", z.bridged(1), -9);
        z.hour();
        Check.due("after 400, from now", z.bridged(1), 400);
    }

    private static void stops() {
        Watched empty = new Watched();
        Check.refused(empty, "stop() without LAMPS", empty::stop, -3);
        // 200 by 30, by 20, by 10: 6, 10, 20
        Watched x = Check.with("p31,1;p51,1;p41,1;u2;d0,1;");
        int[] limits = {5, 6, 9, 10, 19, 20, 999};
        int[] due = {0, 1, 1, 2, 2, -9, -9};
        for (int i = 0; i < limits.length; i++) {
            x.set(2, limits[i]);
            Check.due("stop, LIMIT " + limits[i], x.stop(), due[i]);
        }
    }

    private static void light() {
        Watched x = Check.with("p12,1;p099,1;u40;");
        // FLOW 200, BRIGHT 20 and 20, HURT 2 and 2: BRIDGED after 10; then FLOW 400, BRIGHT 40
        Check.due("light(10)", x.light(10), 400);
        Check.due("light(12)", x.light(12), 480);
        Check.refused(x, "light(-1)", () -> x.light(-1), -4);
        Check.refused(x, "light(201)", () -> x.light(201), -6);
        Watched y = Check.with("p099,1;u1;");
        Check.due("light(200)", y.light(200), 200);
    }

    private static void keeps() {
        Watched x = Check.with("p12,1;p099,1;u40;d1,3;");
        // one at once; then the BRIDGER after each 10 HOURS, the LAMP after 495
        Check.due("keeps(1)", x.keeps(1), 1);
        Check.due("keeps(10)", x.keeps(10), 1);
        Check.due("keeps(11)", x.keeps(11), 2);
        Check.due("keeps(200)", x.keeps(200), 20);
        Check.due("SPARES are as they were", x.set(1, 3), 3);
        Check.refused(x, "keeps(0)", () -> x.keeps(0), -4);
        Check.refused(x, "keeps(201)", () -> x.keeps(201), -6);
        x.set(1, 0);
        Check.due("without SPARES", x.keeps(11), 2);
        // LOOSE: HANGING in the HOURS 3, 13, .. 193
        Watched y = Check.with("p299,1;u1;");
        Check.due("keeps(200) of a LOOSE one", y.keeps(200), 20);
        Check.due("keeps(4)", y.keeps(4), 0);
        Check.due("keeps(5)", y.keeps(5), 1);
    }

    private static void allAnew() {
        Watched empty = new Watched();
        Check.refused(empty, "allAnew() without LAMPS", empty::allAnew, -3);
        Watched x = Check.with("p099,1;u1;");
        Check.due("50 at most", x.allAnew(), 50);
        Check.tell(x, "d0,1;");
        Check.due("a dead one is put anew first", x.allAnew(), 50);
        // a LOOSE one hangs in HOURS 9, 19, ..: anew ahead of 10, 20, ..
        Watched y = Check.with("p299,1;u1;g9;");
        Check.due("each tenth", y.allAnew(), 10);
        y.set(3, 4);
        Check.due("ahead of 5, 15, ..", y.allAnew(), 5);
        y.set(3, 3);
        Check.due("ahead of 4, 14, ..", y.allAnew(), 2);
        y.set(3, 2);
        Check.due("ahead of 3, 13, ..", y.allAnew(), 1);
        y.hour();
        Check.due("from HOUR 1: ahead of 2, 12, ..", y.allAnew(), 2);
        // a MELTING one goes in each HOUR; with h 1 it is LIVE as each begins
        Watched z = Check.with("p41,1;u999;");
        Check.due("each HOUR", z.allAnew(), 1);
        // BRIDGED ones leave it LIVE, and HURT goes with them
        Watched w = Check.with("p11,1;p099,1;u40;");
        Check.due("a BRIDGER may go", w.allAnew(), 50);
    }

    private static void joined() {
        Watched x = new Watched();
        Check.due("no LAMPS", x.joined(), 0);
        Check.tell(x, "p01,1;");
        Check.due("100 by 230", x.joined(), 0);
        x.set(2, 999);
        Check.due("999 by 230", x.joined(), 4);
        x.set(0, 1);
        Check.due("FLOW 10: by 1", x.joined(), 999);
        x.set(0, 2);
        Check.due("FLOW 20: by 2", x.joined(), 499);
        x.set(0, 1);
        Check.tell(x, "p51,1;");
        Check.due("FLOW 3: by 1 at least", x.joined(), 999);
        Check.tell(x, "d0,1;");
        Check.due("not LIVE", x.joined(), 0);
    }

    private static void two() {
        long line = 4000000000000000000L;
        Watched x = new Watched();
        Check.due("two(2)", x.two(2), line + 2);
        Check.due("two(-1)", x.two(-1), line + 2);
        Check.due("two(0) without LAMPS", x.two(0), line + 3);
        Check.due("OTHER", x.count(12), 2);
        Check.due("STATE", x.count(13), 1);
        Check.tell(x, "p01,1;");
        Check.due("one lamp", x.two(0), 0);
        Check.due("one lamp", x.two(1), 1);
        Check.tell(x, "p01,1;");
        Check.due("1 of 199", x.two(0), 1);
        Check.due("1 of 199", x.two(1), 199);
        // 1, 1 and 4 hundredths: none 0.940896, just one 0.058212
        Check.tell(x, "p21,1;");
        Check.due("892 of 59104", x.two(0), 223);
        Check.due("892 of 59104", x.two(1), 14776);
        Check.tell(x, "p01,1;p01,1;p01,1;p01,1;p01,1;");
        Check.due("8 are not too many", x.two(1) < line ? 1 : 0, 1);
        Check.tell(x, "p01,1;");
        Check.due("9 are", x.two(0), line + 6);
        Check.due("9 are, another part first", x.two(9), line + 2);
        Check.due("ROOM", x.count(16), 1);
        // 99 at most: HURT 1078 of a RUSTED one
        Watched y = Check.with("p399,1;u999;");
        for (int h = 0; h < 12; h++) {
            y.hour();
            if (y.lamp(0, 4) == 3) {
                y.touch(0);
            }
        }
        Check.tell(y, "p399,1;");
        Check.due("LIKELY", y.lamp(0, 7), 122);
        // 99 and 4 hundredths: none 0.0096, both 0.0396
        Check.due("396 of 9904", y.two(0), 99);
        Check.due("396 of 9904", y.two(1), 2476);
    }

    private static void seeds() {
        Watched empty = new Watched();
        Check.refused(empty, "seeds(0, 1)", () -> empty.seeds(0, 1), -4);
        Check.refused(empty, "seeds(51, 1)", () -> empty.seeds(51, 1), -6);
        Check.refused(empty, "seeds(1, 1)", () -> empty.seeds(1, 1), -3);
        Watched x = Check.with("p299,1;u1;");
        Check.due("HANGING by the touch", x.seeds(1, 5), 0);
        Check.due("WELL by the second", x.seeds(2, 5), 1);
        x.set(3, 4);
        Check.due("holds", x.seeds(4, 5), 1);
        Check.due("HOUR 4", x.seeds(5, 5), 0);
        Check.due("touched ahead of HOUR 5", x.seeds(6, 5), 1);
        Check.due("seeds(50, 5)", x.seeds(50, 5), 1);
        // the first DRAWS: of 0 it is 0, of 1 it is 16838, of -1 it is 15929
        Watched y = Check.with("p099,1;p299,1;u1;");
        Check.due("seed 0", y.seeds(1, 0), 2);
        Check.due("seed 1", y.seeds(1, 1), 2);
        Check.due("seed -1", y.seeds(1, -1), 1);
        // of 1 the second is 5758, the third 10113
        Check.due("seed 1, two", y.seeds(2, 1), 2);
        Check.due("seed 1, three", y.seeds(3, 1), 1);
    }

    /** Twelve lamps: FLOW 200, BRIGHT 20, HURT 2 each HOUR, all are OPEN after 50. */
    private static void fullRow() {
        Watched x = Check.with("p010,1;p010,1;p010,1;p010,1;p010,1;p010,1;u240;");
        Check.due("six more", Check.tell(x, "p010,1;p010,1;p010,1;p010,1;p010,1;p010,1;"), 6);
        x.set(2, 999);
        long[] got = {x.count(0), x.lasts(), x.next(0), x.next(1), x.keeps(50), x.keeps(51), x.keeps(200),
            x.allAnew(), x.light(50), x.light(51), x.orderSum(), x.order(11), x.order(12), x.find(0, 11, 0),
            x.find(0, 11, 1), x.openTo(), x.told(11, 1), x.openTo(), x.judge(), x.stop(), x.seeds(49, 1),
            x.seeds(50, 1), x.bridged(1), x.meter(0, 11), x.finder(11), x.hour(), x.count(9), x.joined()};
        long[] due = {12, 50, 0, 50, 0, 12, 36,
            50, 12000, 12000, 78, 11, -9, 44,
            4, 4095, 1, 2048, -9, 10, 12,
            0, -9, 1, 1, 0, 24, 49};
        for (int i = 0; i < due.length; i++) {
            Check.due("twelve lamps, call " + i, got[i], due[i]);
        }
    }

    private static void nothingComesOfIt() {
        Watched x = Check.with("p02,1;p13,2;p24,3;p35,4;p46,5;p57,6;");
        x.hour();
        x.told(1, 1);
        String before = Check.stateOf(x);
        x.lasts();
        x.next(0);
        x.next(1);
        x.bridged(3);
        x.stop();
        x.light(200);
        x.keeps(200);
        x.allAnew();
        x.joined();
        x.two(0);
        x.seeds(50, 7);
        x.find(0, 5, 0);
        x.look(0, 5, 1);
        x.order(2);
        x.orderSum();
        Check.same("state", Check.stateOf(x), before);
    }
}
