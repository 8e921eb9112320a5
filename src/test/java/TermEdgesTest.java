/** "Terms", but STRINGS: each sentence that names a bound, on both sides of it. */
final class TermEdgesTest {
    private static final int MINUTES = 2;
    private static final int HURT = 3;
    private static final int HOW = 4;
    private static final int DRAG = 5;
    private static final int BRIGHT = 6;
    private static final int[] DRAGS = {10, 10, 10, 15, 6, 20};

    private TermEdgesTest() {
    }

    public static void main(String[] args) {
        lampsAsTheyCome();
        atFirst();
        drags();
        bridgedHasNoDrag();
        openAndHangingKeepTheirDrag();
        notLiveWithoutLamps();
        notLiveWithOneOpenOrHanging();
        notLiveWithoutDrags();
        flowIsZeroIfNotLive();
        flowIsCut();
        flowCutToZeroIsLive();
        flowHasAGreatest();
        brightIsCut();
        brightOfOthersIsZero();
        hurtIsCut();
        hurtOfOthersStays();
        noHurtIfNotLive();
        hurtHasAGreatest();
        brightAsAheadOfTheHour();
        flowAsAheadOfTheHour();
        dieByHurt();
        meltingByFlow();
        meltingNotByHurt();
        noneDiesIfNotLive();
        looseByTheClock();
        rustedByTheClock();
        othersNotByTheClock();
        deadOnesNotByTheClock();
        looseIfNotLive();
        diesAheadOfHanging();
        hourIsOneMore();
        Check.close("TermEdgesTest");
    }

    private static void lampsAsTheyCome() {
        Check.sentence("LAMPS 0 .. 11 as they come, one behind the other");
        Watched x = new Watched();
        for (int i = 0; i < 12; i++) {
            Check.due("lamp(" + i + ", 1) ahead of it", x.lamp(i, 1), -1);
            Check.due("a lamp more", Check.tell(x, "p0" + (i + 1) + ",1;"), 1);
            Check.due("LAMPS", x.count(0), i + 1);
            Check.due("LIFE of the new one", x.lamp(i, 1), i + 1);
            Check.due("LIFE of the first", x.lamp(0, 1), 1);
        }
        Check.due("a 13th", Check.tell(x, "p013,1;"), -2000);
        Check.due("LAMPS", x.count(0), 12);
        Check.due("lamp(12, 1)", x.lamp(12, 1), -1);
        Check.due("LIFE of the last", x.lamp(11, 1), 12);
    }

    private static void atFirst() {
        Check.sentence("HURT 0 at first; WELL at first; HOUR 0 at first; SETTINGS 230, 3, 100, 3");
        Watched x = new Watched();
        Check.due("HOUR", x.count(5), 0);
        int[] first = {230, 3, 100, 3};
        for (int what = 0; what < 4; what++) {
            Check.due("set(" + what + ", 1)", x.set(what, 1), first[what]);
        }
        for (int kind = 0; kind < 6; kind++) {
            Watched y = Check.with("p" + kind + "1,9;");
            Check.due("HURT", y.lamp(0, HURT), 0);
            Check.due("WELL", y.lamp(0, HOW), 0);
            Check.due("MINUTES", y.lamp(0, MINUTES), 9);
        }
        Watched late = Check.with("p099,1;u100;");
        late.hour();
        Check.tell(late, "p099,1;");
        Check.due("HURT of one that came first", late.lamp(0, HURT), 10);
        Check.due("HURT of one that comes later", late.lamp(1, HURT), 0);
    }

    private static void drags() {
        Check.sentence("DRAG of a lamp: LAMP 10; BRIDGER, LOOSE as a LAMP; RUSTED 5 more; MELTING 4 less; UNLIKE twice");
        for (int kind = 0; kind < 6; kind++) {
            Watched x = Check.with("p" + kind + "9,1;");
            Check.due("DRAG of KIND " + kind, x.lamp(0, DRAG), DRAGS[kind]);
            Check.due("FLOW of it alone", x.flow(), 23000 / DRAGS[kind]);
        }
    }

    private static void bridgedHasNoDrag() {
        Check.sentence("A BRIDGED one has 0");
        for (int kind = 0; kind < 6; kind++) {
            Watched x = Check.with("p" + kind + "9,1;p09,1;d0,2;");
            Check.due("DRAG of KIND " + kind, x.lamp(0, DRAG), 0);
            Check.due("FLOW by the other's DRAG alone", x.flow(), 2300);
            Check.due("LIVE", x.count(6), 1);
        }
    }

    private static void openAndHangingKeepTheirDrag() {
        Check.sentence("DRAG of one that is OPEN or HANGING");
        for (int kind = 0; kind < 6; kind++) {
            Watched x = Check.with("p" + kind + "9,1;p" + kind + "9,1;d0,1;d1,3;");
            Check.due("OPEN, KIND " + kind, x.lamp(0, DRAG), DRAGS[kind]);
            Check.due("HANGING, KIND " + kind, x.lamp(1, DRAG), DRAGS[kind]);
        }
    }

    private static void notLiveWithoutLamps() {
        Check.sentence("LIVE: there are LAMPS");
        Watched x = new Watched();
        Check.due("no LAMPS", x.count(6), 0);
        Check.tell(x, "p01,1;");
        Check.due("one", x.count(6), 1);
        Check.due("12", Check.withMany(12, "p01,1;", "").count(6), 1);
    }

    private static void notLiveWithOneOpenOrHanging() {
        Check.sentence("LIVE: none is OPEN or HANGING");
        for (int i = 0; i < 12; i++) {
            Watched x = Check.withMany(12, "p01,1;", "");
            int[] live = {1, 0, 1, 0};
            for (int how = 0; how < 4; how++) {
                Check.tell(x, "d" + i + "," + how + ";");
                Check.due("lamp " + i + " is " + how, x.count(6), live[how]);
            }
            Check.tell(x, "d" + i + ",0;");
            Check.due("lamp " + i + " is WELL again", x.count(6), 1);
        }
    }

    private static void notLiveWithoutDrags() {
        Check.sentence("LIVE: DRAGS together are above 0");
        Watched one = Check.with("p01,1;d0,2;");
        Check.due("one that is BRIDGED", one.count(6), 0);
        Check.due("its FLOW", one.flow(), 0);
        for (int well = 0; well < 3; well++) {
            Watched x = Check.with("p41,1;p41,1;p41,1;d0,2;d1,2;d2,2;");
            Check.due("all are BRIDGED", x.count(6), 0);
            Check.tell(x, "d" + well + ",0;");
            Check.due("all but one", x.count(6), 1);
        }
        Watched full = Check.withMany(12, "p01,1;", "");
        Check.tell(full, "d0,2;d1,2;d2,2;d3,2;d4,2;d5,2;");
        Check.tell(full, "d6,2;d7,2;d8,2;d9,2;d10,2;");
        Check.due("11 of 12 are BRIDGED", full.count(6), 1);
        Check.tell(full, "d11,2;");
        Check.due("12 of 12", full.count(6), 0);
    }

    private static void flowIsZeroIfNotLive() {
        Check.sentence("FLOW: 0, if it is not LIVE");
        Check.due("no LAMPS", new Watched().flow(), 0);
        Check.due("OPEN", Check.with("p01,1;p01,1;d0,1;").flow(), 0);
        Check.due("HANGING", Check.with("p01,1;p01,1;d1,3;").flow(), 0);
        Check.due("BRIDGED, both", Check.with("p01,1;p01,1;d0,2;d1,2;").flow(), 0);
        Check.due("BRIDGED, one", Check.with("p01,1;p01,1;d0,2;").flow(), 2300);
    }

    private static void flowIsCut() {
        Check.sentence("FLOW: 100 times PUSH by all DRAGS, cut");
        // DRAG 15: 100 by 15 is 6.7; 200 by 15 is 13.3; 300 by 15 is 20
        int[] due = {6, 13, 20};
        for (int push = 1; push <= 3; push++) {
            Check.due("PUSH " + push, Check.with("p31,1;u" + push + ";").flow(), due[push - 1]);
        }
        Check.due("PUSH 999, 12 of DRAG 20", Check.withMany(12, "p51,1;", "u999;").flow(), 416);
    }

    private static void flowCutToZeroIsLive() {
        Check.sentence("FLOW cut to 0, and LIVE");
        Watched hundred = Check.with("p51,1;p51,1;p51,1;p51,1;p51,1;u1;");
        Check.due("100 by 100", hundred.flow(), 1);
        Watched more = Check.with("p51,1;p51,1;p51,1;p51,1;p31,1;p41,1;u1;");
        Check.due("100 by 101", more.flow(), 0);
        Check.due("LIVE", more.count(6), 1);
        Check.due("swap: LIVE", more.swap(0), 1);
        Check.due("joined: by 1 at least", more.joined(), 100);
        Check.due("lasts", more.lasts(), 4);
        Check.due("BRIGHT", more.lamp(0, BRIGHT), 0);
    }

    private static void flowHasAGreatest() {
        Check.sentence("FLOW: 9999 at most");
        int[] push = {599, 600, 999};
        int[] due = {9983, 9999, 9999};
        for (int k = 0; k < 3; k++) {
            Watched x = Check.with("p499,1;u" + push[k] + ";");
            Check.due("FLOW, PUSH " + push[k], x.flow(), due[k]);
            Check.due("BRIGHT by it", x.lamp(0, BRIGHT), due[k] * 6 / 100);
        }
        Check.due("DRAG 10, PUSH 999", Check.with("p099,1;u999;").flow(), 9990);
    }

    private static void brightIsCut() {
        Check.sentence("BRIGHT of a WELL lamp: FLOW times its DRAG by 100, cut");
        // DRAG 6: FLOW 16, 33, 50, 66
        int[] due = {0, 1, 3, 3};
        for (int push = 1; push <= 4; push++) {
            Check.due("PUSH " + push, Check.with("p499,1;u" + push + ";").lamp(0, BRIGHT), due[push - 1]);
        }
        Watched x = Check.with("p09,1;p19,1;p29,1;p39,1;p49,1;p59,1;u500;");
        // 50000 by 71 is 704
        int[] bright = {70, 70, 70, 105, 42, 140};
        for (int i = 0; i < 6; i++) {
            Check.due("KIND " + i, x.lamp(i, BRIGHT), bright[i]);
        }
    }

    private static void brightOfOthersIsZero() {
        Check.sentence("BRIGHT of others 0");
        for (int how = 1; how <= 3; how++) {
            Watched x = Check.with("p09,1;p09,1;d0," + how + ";");
            Check.due("it is " + how, x.lamp(0, BRIGHT), 0);
            Check.due("the other one", x.lamp(1, BRIGHT), how == 2 ? 230 : 0);
        }
    }

    private static void hurtIsCut() {
        Check.sentence("HURT by BRIGHT by 10, cut, more");
        // alone, a LAMP's BRIGHT is PUSH
        int[] push = {1, 9, 10, 19, 20, 999};
        int[] hurt = {0, 0, 1, 1, 2, 99};
        for (int k = 0; k < push.length; k++) {
            Watched x = Check.with("p099,1;u" + push[k] + ";");
            Check.due("hour", x.hour(), 0);
            Check.due("HURT, BRIGHT " + push[k], x.lamp(0, HURT), hurt[k]);
            Check.due("hour", x.hour(), 0);
            Check.due("HURT of two HOURS", x.lamp(0, HURT), 2 * hurt[k]);
        }
    }

    private static void hurtOfOthersStays() {
        Check.sentence("each WELL lamp is HURT, if it is LIVE: others are not");
        Watched x = Check.with("p099,1;p099,1;u100;");
        x.hour();
        Check.due("HURT, 5 of 50", x.lamp(0, HURT), 5);
        Check.tell(x, "d0,2;");
        x.hour();
        Check.due("HURT of the BRIDGED one", x.lamp(0, HURT), 5);
        Check.due("HURT of the other, 10 of 100", x.lamp(1, HURT), 15);
    }

    private static void noHurtIfNotLive() {
        Check.sentence("An HOUR goes by: if it is LIVE");
        for (int how = 1; how <= 3; how += 2) {
            Watched x = Check.with("p099,1;p199,1;p499,1;u100;d1," + how + ";");
            Check.due("hour", x.hour(), 0);
            Check.due("all HURT, one is " + how, x.count(9), 0);
            Check.due("HOUR", x.count(5), 1);
        }
        Watched all = Check.with("p099,1;u100;d0,2;");
        Check.due("hour", all.hour(), 0);
        Check.due("all HURT, all BRIDGED", all.count(9), 0);
    }

    private static void hourAndTouch(Watched x) {
        x.hour();
        if (x.lamp(0, HOW) == 3) {
            x.touch(0);
        }
        Check.due("WELL", x.lamp(0, HOW), 0);
    }

    /** With this PUSH one lamp alone, but a MELTING one, is HURT by so much in an HOUR, as its BRIGHT is PUSH. */
    private static int pushFor(int hurt) {
        return (10 * hurt + 2) / 3 * 3;
    }

    private static void hurtHasAGreatest() {
        Check.sentence("HURT (0 .. 9999): 9999 at most");
        int[][] steps = {{8, 1, 1}, {8, 2, 7}, {9, 1, 99}, {10, 10, 1}, {99, 1, 1}};
        int[][] dues = {{9998, 9999, 9999}, {9998, 9999, 9999}, {9999, 9999, 9999}, {9999, 9999, 9999},
            {9999, 9999, 9999}};
        for (int k = 0; k < steps.length; k++) {
            // a RUSTED one that hangs is WELL again by a touch, so its HURT goes on
            Watched x = Check.with("p399,1;u990;");
            for (int h = 0; h < 100; h++) {
                hourAndTouch(x);
            }
            Check.due("HURT of 100 HOURS", x.lamp(0, HURT), 9900);
            x.set(0, pushFor(90));
            hourAndTouch(x);
            Check.due("HURT, 90 more", x.lamp(0, HURT), 9990);
            for (int step = 0; step < 3; step++) {
                x.set(0, pushFor(steps[k][step]));
                hourAndTouch(x);
                Check.due("HURT, " + steps[k][step] + " more", x.lamp(0, HURT), dues[k][step]);
            }
            Check.due("all HURT", x.count(9), 9999);
            Check.due("LIKELY", x.lamp(0, 7), 1003);
        }
    }

    private static void brightAsAheadOfTheHour() {
        Check.sentence("all BRIGHT as they were ahead of the HOUR");
        // FLOW 200, BRIGHT 20, HURT 2 each HOUR; the BRIDGER goes in the 5th, which does not make the others brighter
        Watched x = Check.with("p11,1;p099,1;p099,1;u60;");
        for (int h = 1; h <= 4; h++) {
            Check.due("hour " + h, x.hour(), 0);
        }
        Check.due("hour 5", x.hour(), 1);
        Check.due("HURT behind the one that went", x.lamp(1, HURT), 10);
        Check.due("HURT of the last", x.lamp(2, HURT), 10);
        Check.due("hour 6", x.hour(), 0);
        Check.due("HURT, FLOW 300 then", x.lamp(1, HURT), 13);
        // one that goes OPEN does not keep those behind it from being HURT, nor from dying
        Watched y = Check.with("p01,1;p01,1;p099,1;u300;");
        Check.due("two in one HOUR", y.hour(), 2);
        Check.due("HURT of the last", y.lamp(2, HURT), 10);
    }

    private static void flowAsAheadOfTheHour() {
        Check.sentence("FLOW as it was ahead of the HOUR");
        // FLOW 100 ahead, 162 behind; the MELTING one of 30 bears 150, and stands ahead of or behind the BRIDGER
        for (String text : new String[] {"p430,1;p11,1;p099,1;u26;", "p11,1;p430,1;p099,1;u26;"}) {
            Watched x = Check.with(text);
            for (int h = 1; h <= 9; h++) {
                Check.due("hour " + h, x.hour(), 0);
            }
            Check.due("hour 10, the BRIDGER", x.hour(), 1);
            Check.due("BRIDGED", x.count(3), 1);
            Check.due("FLOW then", x.flow(), 162);
            Check.due("hour 11, the MELTING one", x.hour(), 1);
            Check.due("OPEN", x.count(2), 1);
        }
    }

    /** One lamp alone is HURT to just below the bound, then by just 1 more. */
    private static void diesAt(int kind, int life, int bound, int dead) {
        String name = "KIND " + kind + ", LIFE " + life + ": ";
        Watched x = Check.with("p" + kind + life + ",1;g9;");
        x.set(0, pushFor(99));
        for (int h = 0; h < (bound - 1) / 99; h++) {
            hourAndTouch(x);
        }
        if ((bound - 1) % 99 > 0) {
            x.set(0, pushFor((bound - 1) % 99));
            hourAndTouch(x);
        }
        Check.due(name + "HURT", x.lamp(0, HURT), bound - 1);
        Check.due(name + "WELL", x.lamp(0, HOW), 0);
        Check.due(name + "LIVE", x.count(6), 1);
        x.set(0, pushFor(1));
        // a RUSTED one must not hang by the clock in this HOUR
        x.set(3, x.count(5) % 5 == 4 ? 8 : 9);
        Check.due(name + "the last hour", x.hour(), 1);
        Check.due(name + "HURT", x.lamp(0, HURT), bound);
        Check.due(name + "dead", x.lamp(0, HOW), dead);
        Check.due(name + "LIVE", x.count(6), 0);
        Check.due(name + "the hour behind", x.hour(), 0);
    }

    private static void dieByHurt() {
        int[] lives = {1, 2, 9, 10, 98, 99};
        for (int life : lives) {
            Check.sentence("LAMP, BRIDGER, LOOSE, RUSTED: HURT is 10 times LIFE or more");
            diesAt(0, life, 10 * life, 1);
            diesAt(1, life, 10 * life, 2);
            diesAt(2, life, 10 * life, 1);
            diesAt(3, life, 10 * life, 3);
            Check.sentence("UNLIKE: HURT is 20 times LIFE or more");
            diesAt(5, life, 20 * life, 2);
        }
    }

    private static void meltingByFlow() {
        Check.sentence("MELTING: FLOW is above 5 times LIFE");
        int[] lives = {1, 20, 99};
        int[] pushes = {6, 107, 525};
        for (int k = 0; k < 3; k++) {
            Watched x = Check.with("p4" + lives[k] + ",1;p599,1;p599,1;p599,1;p599,1;p599,1;u" + pushes[k] + ";");
            Check.due("FLOW", x.flow(), 5 * lives[k]);
            Check.due("FLOW is 5 times LIFE", x.hour(), 0);
            Check.due("WELL", x.lamp(0, HOW), 0);
            x.set(0, pushes[k] + 1);
            Check.due("FLOW", x.flow(), 5 * lives[k] + 1);
            Check.due("FLOW is above", x.hour(), 1);
            Check.due("OPEN", x.lamp(0, HOW), 1);
        }
    }

    private static void meltingNotByHurt() {
        Check.sentence("MELTING: by FLOW alone");
        // 24 by 6: FLOW 400, BRIGHT 24, HURT 2 each HOUR; LIFE 80 bears FLOW 400, and HURT goes above 800
        Watched x = Check.with("p480,1;u24;");
        Check.due("lasts", x.lasts(), -9);
        Check.due("next", x.next(1), -9);
        for (int h = 0; h < 405; h++) {
            x.hour();
        }
        Check.due("HURT", x.lamp(0, HURT), 810);
        Check.due("WELL", x.lamp(0, HOW), 0);
        // nor do others die by FLOW
        for (int kind : new int[] {0, 1, 2, 3, 5}) {
            Watched y = Check.with("p" + kind + "99,1;u999;g9;");
            Check.due("FLOW is above 495", y.flow() > 495 ? 1 : 0, 1);
            Check.due("KIND " + kind, y.hour(), 0);
        }
    }

    private static void noneDiesIfNotLive() {
        Check.sentence("if it is LIVE, .. then one that is WELL DIES");
        Watched x = Check.with("p01,1;p11,1;p51,1;u999;");
        x.hour();
        Check.due("all are dead", x.count(1), 0);
        Check.tell(x, "d1,0;d2,0;");
        Check.due("not LIVE: none dies", x.hour(), 0);
        Check.due("WELL", x.count(1), 2);
        Check.tell(x, "d0,0;");
        Check.due("LIVE: all die", x.hour(), 3);
    }

    private static void looseByTheClock() {
        Check.sentence("a LOOSE one that is still WELL is HANGING, if HOUR (as it was) modulo 10 is GRIP");
        for (int grip = 1; grip <= 9; grip++) {
            Watched x = Check.with("p299,1;u1;g" + grip + ";");
            for (int h = 0; h < 32; h++) {
                boolean due = h % 10 == grip;
                Check.due("GRIP " + grip + ", HOUR " + h, x.hour(), due ? 1 : 0);
                Check.due("how it is", x.lamp(0, HOW), due ? 3 : 0);
                if (due) {
                    Check.due("touch", x.touch(0), 0);
                }
            }
        }
    }

    private static void rustedByTheClock() {
        Check.sentence("a RUSTED one, if HOUR modulo 5 is GRIP modulo 5");
        for (int grip = 1; grip <= 9; grip++) {
            Watched x = Check.with("p399,1;u1;g" + grip + ";");
            int first = grip >= 5 ? grip - 5 : grip;
            for (int h = 0; h < 22; h++) {
                boolean due = h == first || h == first + 5 || h == first + 10 || h == first + 15 || h == first + 20;
                Check.due("GRIP " + grip + ", HOUR " + h, x.hour(), due ? 1 : 0);
                Check.due("how it is", x.lamp(0, HOW), due ? 3 : 0);
                if (due) {
                    Check.due("touch", x.touch(0), 0);
                }
            }
        }
    }

    private static void othersNotByTheClock() {
        Check.sentence("LAMPS, BRIDGERS, MELTING, UNLIKE ones do not hang by the clock");
        for (int grip = 1; grip <= 9; grip++) {
            Watched x = Check.with("p099,1;p199,1;p499,1;p599,1;u1;g" + grip + ";");
            for (int h = 0; h < 20; h++) {
                Check.due("GRIP " + grip + ", HOUR " + h, x.hour(), 0);
            }
            Check.due("WELL", x.count(1), 4);
        }
    }

    private static void deadOnesNotByTheClock() {
        Check.sentence("a LOOSE one that is still WELL");
        for (int kind = 2; kind <= 3; kind++) {
            for (int how = 1; how <= 3; how++) {
                Watched x = Check.with("p" + kind + "99,1;d0," + how + ";g1;");
                for (int h = 0; h < 12; h++) {
                    Check.due("HOUR " + h, x.hour(), 0);
                    Check.due("KIND " + kind + " as it was", x.lamp(0, HOW), how);
                }
            }
        }
    }

    private static void looseIfNotLive() {
        Check.sentence("Then (LIVE or not)");
        for (String dead : new String[] {"d0,1;", "d0,3;"}) {
            Watched x = Check.with("p099,1;p299,1;p399,1;g2;" + dead);
            Check.due("HOUR 0", x.hour(), 0);
            Check.due("HOUR 1", x.hour(), 0);
            Check.due("HOUR 2", x.hour(), 2);
            Check.due("LOOSE", x.lamp(1, HOW), 3);
            Check.due("RUSTED", x.lamp(2, HOW), 3);
            Check.due("HURT", x.count(9), 0);
        }
    }

    private static void diesAheadOfHanging() {
        Check.sentence("then one that is WELL DIES; then a LOOSE one that is still WELL is HANGING");
        // both in HOUR 1: it is OPEN, and counted once
        Watched x = Check.with("p22,1;u100;g1;");
        Check.due("HOUR 0", x.hour(), 0);
        Check.due("HOUR 1", x.hour(), 1);
        Check.due("OPEN", x.lamp(0, HOW), 1);
        Watched y = Check.with("p32,1;u150;g1;");
        Check.due("HOUR 0", y.hour(), 0);
        Check.due("HOUR 1: HURT 30 and the clock", y.hour(), 1);
        Check.due("HANGING", y.lamp(0, HOW), 3);
    }

    private static void hourIsOneMore() {
        Check.sentence("HOUR is one more");
        for (Watched x : new Watched[] {States.empty(), States.usedWithoutLamps(), States.ofAllKinds(), States.full()}) {
            int before = x.count(5);
            for (int h = 1; h <= 20; h++) {
                x.hour();
                Check.due("HOUR", x.count(5), before + h);
            }
        }
    }
}
