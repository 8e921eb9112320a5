/** Promise 7: what an HOUR does to each KIND. */
final class HoursTest {
    private HoursTest() {
    }

    public static void main(String[] args) {
        empty();
        lastHour();
        hurtAndDeath();
        together();
        melting();
        loose();
        deadRowsAreNotHurt();
        hurtHasAGreatest();
        liveWithoutFlow();
        Check.close("HoursTest");
    }

    private static void empty() {
        Watched x = new Watched();
        Check.due("hour()", x.hour(), 0);
        Check.due("HOUR", x.count(5), 1);
    }

    /** Promised calls do not reach HOUR 9999, so this one object goes far behind its 512th. */
    private static void lastHour() {
        OneLampAllOut x = new OneLampAllOut();
        for (int h = 0; h < 9999; h++) {
            Check.due("hour()", x.hour(), 0);
        }
        Check.due("HOUR", x.count(5), 9999);
        Check.due("hour(), HOUR is 9999", x.hour(), -6);
        Check.due("hour(), HOUR is 9999, again", x.hour(), -6);
        Check.due("REFUSALS -6", x.count(16), 2);
        Check.due("HOUR as it was", x.count(5), 9999);
    }

    /** Each KIND that is hurt, alone: the hour in which it dies, and as what. */
    private static void hurtAndDeath() {
        // u100: FLOW is 10000 by DRAG, BRIGHT is 100 (99 for a RUSTED one), HURT 10 (9) more each HOUR.
        dies("p03,1;u100;g9;", 3, 10, 1);
        dies("p13,1;u100;g9;", 3, 10, 2);
        dies("p23,1;u100;g9;", 3, 10, 1);
        dies("p33,1;u100;g9;", 4, 9, 3);
        dies("p53,1;u100;g9;", 6, 10, 2);
    }

    private static void dies(String text, int hours, int hurt, int condition) {
        Watched x = Check.with(text);
        for (int h = 1; h < hours; h++) {
            Check.due(text + " hour " + h, x.hour(), 0);
            Check.due(text + " HURT", x.lamp(0, 3), h * hurt);
            Check.due(text + " WELL", x.lamp(0, 4), 0);
        }
        Check.due(text + " the last hour", x.hour(), 1);
        Check.due(text + " HURT", x.lamp(0, 3), hours * hurt);
        Check.due(text + " dead", x.lamp(0, 4), condition);
        Check.due(text + " not LIVE", x.count(6), 0);
        Check.due(text + " none more", x.hour(), 0);
        Check.due(text + " HURT stays", x.lamp(0, 3), hours * hurt);
    }

    /** FLOW and BRIGHT are as they were ahead of the HOUR, though one dies in it. */
    private static void together() {
        Watched x = Check.with("p11,1;p01,1;p099,1;u30;");
        // FLOW 100, BRIGHT 10, HURT 1
        for (int h = 1; h < 10; h++) {
            Check.due("hour", x.hour(), 0);
        }
        Check.due("the tenth", x.hour(), 2);
        Check.due("BRIDGED", x.count(3), 1);
        Check.due("OPEN", x.count(2), 1);
        Check.due("WELL", x.count(1), 1);
        Check.due("HURT of the last", x.lamp(2, 3), 10);
        Check.due("all HURT", x.count(9), 30);
    }

    private static void melting() {
        Watched x = Check.with("p420,1;u6;");
        Check.due("FLOW is 5 times LIFE", x.flow(), 100);
        Check.due("that is not above", x.hour(), 0);
        Check.tell(x, "p419,1;u12;");
        Check.due("FLOW", x.flow(), 100);
        Check.due("above 95", x.hour(), 1);
        Check.due("OPEN", x.lamp(1, 4), 1);
        Check.due("WELL", x.lamp(0, 4), 0);
        Check.due("not LIVE: none dies", x.hour(), 0);
        Watched y = Check.with("p499,1;u24;");
        Check.due("FLOW", y.flow(), 400);
        Check.due("hour", y.hour(), 0);
        Check.due("it is HURT all the same", y.lamp(0, 3), 2);
        // a BRIDGER that goes lets the flow rise
        Watched z = Check.with("p430,1;p11,1;p099,1;u26;");
        Check.due("FLOW", z.flow(), 100);
        for (int h = 1; h < 10; h++) {
            Check.due("hour", z.hour(), 0);
        }
        Check.due("the BRIDGER, by the old flow", z.hour(), 1);
        Check.due("FLOW", z.flow(), 162);
        Check.due("the MELTING one", z.hour(), 1);
        Check.due("it is OPEN", z.lamp(0, 4), 1);
    }

    private static void loose() {
        // an OPEN one in the row: they work loose whether it is LIVE or not
        Watched x = Check.with("p01,1;p299,1;p399,1;d0,1;g7;");
        for (int h = 0; h < 10; h++) {
            Check.due("HOUR " + h, x.hour(), h == 2 || h == 7 ? 1 : 0);
            Check.due("RUSTED", x.lamp(2, 4), h >= 2 ? 3 : 0);
            Check.due("LOOSE", x.lamp(1, 4), h >= 7 ? 3 : 0);
        }
        Check.due("mended", x.touch(1), 0);
        for (int h = 10; h < 18; h++) {
            Check.due("HOUR " + h, x.hour(), h == 17 ? 1 : 0);
        }
        Watched y = Check.with("p299,1;p399,1;u1;g5;");
        Check.due("GRIP 5 modulo 5 is 0", y.hour(), 1);
        Check.due("RUSTED", y.lamp(1, 4), 3);
        Check.due("LOOSE", y.lamp(0, 4), 0);
        Check.due("mended", y.touch(1), 0);
        for (int h = 1; h < 6; h++) {
            Check.due("HOUR " + h, y.hour(), h == 5 ? 2 : 0);
        }
        // one that dies in the HOUR in which it would hang is OPEN
        Watched z = Check.with("p21,1;u230;");
        z.hour();
        Check.due("dead of HURT", z.lamp(0, 4), 1);
        Watched w = Check.with("p23,1;u100;g2;");
        w.hour();
        w.hour();
        Check.due("the third", w.hour(), 1);
        Check.due("OPEN, not HANGING", w.lamp(0, 4), 1);
    }

    /** One with HURT enough that is WELL again dies only while the row is LIVE. */
    private static void deadRowsAreNotHurt() {
        Watched x = Check.with("p01,1;p01,1;u230;");
        Check.due("both", x.hour(), 2);
        Check.tell(x, "d0,0;");
        Check.due("not LIVE", x.hour(), 0);
        Check.due("WELL", x.lamp(0, 4), 0);
        Check.due("HURT as it was", x.lamp(0, 3), 11);
        Check.tell(x, "d1,0;");
        Check.due("LIVE", x.hour(), 2);
        Check.due("HURT", x.lamp(0, 3), 22);
    }

    private static void hurtHasAGreatest() {
        Watched x = Check.with("p399,1;u999;");
        for (int h = 0; h < 120; h++) {
            x.hour();
            if (x.lamp(0, 4) == 3) {
                Check.due("touch", x.touch(0), 0);
            }
        }
        Check.due("HURT", x.lamp(0, 3), 9999);
        Check.due("LIKELY", x.lamp(0, 7), 1003);
        Check.due("all HURT", x.count(9), 9999);
    }

    /** A row whose FLOW is cut to 0 is LIVE, so one with HURT enough dies in it. */
    private static void liveWithoutFlow() {
        Watched x = Check.with("p01,1;p53,1;p53,1;p53,1;p53,1;p53,1;p53,1;u999;");
        Check.due("HURT 7", x.hour(), 0);
        Check.due("HURT 14", x.hour(), 1);
        Check.tell(x, "d0,0;u1;");
        Check.due("FLOW", x.flow(), 0);
        Check.due("LIVE", x.count(6), 1);
        Check.due("it dies", x.hour(), 1);
        Check.due("HURT", x.lamp(0, 3), 14);
    }
}
