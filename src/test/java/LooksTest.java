/** Promises 8 to 18: swaps, meter, finder, touch, searches, orders, told looks. */
final class LooksTest {
    private LooksTest() {
    }

    public static void main(String[] args) {
        swaps();
        meters();
        finders();
        touches();
        searches();
        searchesByHurt();
        searchRefusals();
        orders();
        orderEdges();
        toldLooks();
        toldLooksAndRestore();
        Check.close("LooksTest");
    }

    private static void swaps() {
        Watched x = Check.with("p01,4;p37,2;u300;");
        Check.due("hour", x.hour(), 1);
        Check.due("OPEN", x.lamp(0, 4), 1);
        Check.tell(x, "d1,3;");
        Check.due("swap(0), the other hangs", x.swap(0), 0);
        Check.due("swap(1)", x.swap(1), 1);
        int[] due = {3, 7, 2, 0, 0, 15};
        for (int what = 0; what < due.length; what++) {
            Check.due("lamp(1, " + what + ") behind a swap", x.lamp(1, what), due[what]);
        }
        Check.due("HURT behind a swap", x.lamp(0, 3), 0);
        Check.due("swap of a WELL one", x.swap(0), 1);
        Check.due("SPARES", x.set(1, 0), 0);
        Check.refused(x, "swap without SPARES", () -> x.swap(0), -3);
        Check.refused(x, "swap(2) without SPARES", () -> x.swap(2), -1);
        x.set(1, 2);
        Check.refused(x, "swap(-1)", () -> x.swap(-1), -1);
        Check.due("SPARES as they were", x.set(1, 2), 2);
    }

    private static void meters() {
        Watched x = Check.with("p01,1;p01,1;p01,1;p01,1;p01,1;d1,1;d2,2;d4,3;");
        int[][] rows = {{0, 0, 1}, {0, 1, 0}, {1, 1, 0}, {2, 2, 1}, {2, 3, 1}, {3, 4, 0}, {4, 4, 0}, {0, 4, 0}};
        for (int[] row : rows) {
            Check.due("meter(" + row[0] + ", " + row[1] + ")", x.meter(row[0], row[1]), row[2]);
        }
        Check.refused(x, "meter(1, 0)", () -> x.meter(1, 0), -1);
        Check.refused(x, "meter(-1, 0)", () -> x.meter(-1, 0), -1);
        Check.refused(x, "meter(0, 5)", () -> x.meter(0, 5), -1);
        Check.refused(x, "meter(5, 5)", () -> x.meter(5, 5), -1);
        Check.refused(x, "meter of extremes",
            () -> x.meter(Integer.MIN_VALUE, Integer.MAX_VALUE), -1);
    }

    private static void finders() {
        Watched x = Check.with("p01,1;p01,1;p01,1;p01,1;d0,2;d1,3;");
        int[] due = {1, 1, 0, 0};
        for (int i = 0; i < 4; i++) {
            Check.due("finder(" + i + ")", x.finder(i), due[i]);
        }
        Check.refused(x, "finder(4)", () -> x.finder(4), -1);
        Check.refused(x, "finder(-1)", () -> x.finder(-1), -1);
        Watched y = Check.with("p01,1;d0,1;");
        Check.due("nothing is ahead of the first", y.finder(0), 1);
        Check.tell(y, "p01,1;");
        Check.due("the first is ahead of the second", y.finder(1), 0);
    }

    private static void touches() {
        Watched x = Check.with("p01,1;p11,1;p21,1;p31,1;p41,1;p51,1;");
        int[] byGrip3 = {0, 0, 3, 3, 0, 0};
        for (int i = 0; i < 6; i++) {
            Check.due("touch of a WELL one, GRIP 3", x.touch(i), byGrip3[i]);
        }
        Check.due("it is so", x.count(4), 2);
        x.set(3, 4);
        for (int i = 0; i < 6; i++) {
            Check.due("touch, GRIP 4", x.touch(i), 0);
        }
        for (int i = 0; i < 6; i++) {
            Check.due("touch of a WELL one, GRIP 4", x.touch(i), 0);
        }
        Check.tell(x, "d0,1;d1,2;d2,1;d3,2;d4,3;d5,3;");
        int[] due = {1, 2, 1, 2, 0, 0};
        x.set(3, 1);
        for (int i = 0; i < 6; i++) {
            Check.due("touch of others", x.touch(i), due[i]);
        }
        Check.refused(x, "touch(6)", () -> x.touch(6), -1);
        Check.refused(x, "touch(-1)", () -> x.touch(-1), -1);
    }

    private static void searches() {
        // weights 1, 1, 4
        Watched x = Check.with("p01,3;p11,2;p21,5;");
        Check.due("MEAN: 5 * 6 and 2 * 2", x.find(0, 2, 0), 34);
        Check.due("its look", x.look(0, 2, 0), 2);
        Check.due("WORST: 2 and 5, or 5 and 2", x.find(0, 2, 1), 7);
        Check.due("its look, the least", x.look(0, 2, 1), 1);
        Check.due("MEAN of two", x.find(0, 1, 0), 4);
        Check.due("MEAN of the last two", x.find(1, 2, 0), 25);
        Check.due("WORST of the last two", x.find(1, 2, 1), 5);
        Check.due("look of the last two", x.look(1, 2, 0), 2);
        for (int i = 0; i < 3; i++) {
            for (int what = 0; what < 2; what++) {
                Check.due("find of one", x.find(i, i, what), 0);
                Check.due("look of one", x.look(i, i, what), -9);
            }
        }
        // the first place's MINUTES are never taken; equal costs: the least place
        Watched y = Check.with("p01,9;p01,1;p01,1;p01,1;");
        Check.due("MEAN of four", y.find(0, 3, 0), 8);
        Check.due("look of four", y.look(0, 3, 0), 2);
        Check.due("WORST of four", y.find(0, 3, 1), 2);
        Check.due("MEAN of three", y.find(0, 2, 0), 5);
        Check.due("look of three", y.look(0, 2, 0), 1);
        // what is dear stays out of the way by MEAN and by WORST
        Watched z = Check.with("p01,1;p01,1;p01,9;p01,1;");
        Check.due("MEAN: 1 * 4, 1 * 3, 9 * 2", z.find(0, 3, 0), 25);
        Check.due("look", z.look(0, 3, 0), 1);
        Check.due("WORST: 1, 1, 9", z.find(0, 3, 1), 10);
        Check.due("look", z.look(0, 3, 1), 2);
    }

    private static void searchesByHurt() {
        // u200: FLOW 1000, BRIGHT 100, HURT 10 each HOUR; a BRIDGER's weight stays
        Watched x = Check.with("p099,1;p199,1;u200;");
        Check.due("MEAN", x.find(0, 1, 0), 2);
        x.hour();
        Check.due("MEAN, weights 2 and 1", x.find(0, 1, 0), 3);
        x.hour();
        Check.due("MEAN, weights 3 and 1", x.find(0, 1, 0), 4);
        Check.due("LIKELY of the BRIDGER", x.lamp(1, 7), 1);
    }

    private static void searchRefusals() {
        Watched x = Check.with("p01,3;p11,2;");
        Check.refused(x, "find(1, 0, 7)", () -> x.find(1, 0, 7), -1);
        Check.refused(x, "find(-1, 0, 0)", () -> x.find(-1, 0, 0), -1);
        Check.refused(x, "find(0, 2, 0)", () -> x.find(0, 2, 0), -1);
        Check.refused(x, "find(0, 1, 2)", () -> x.find(0, 1, 2), -2);
        Check.refused(x, "find(0, 1, -1)", () -> x.find(0, 1, -1), -2);
        Check.refused(x, "look(1, 0, 7)", () -> x.look(1, 0, 7), -1);
        Check.refused(x, "look(-1, 0, 0)", () -> x.look(-1, 0, 0), -1);
        Check.refused(x, "look(0, 2, 0)", () -> x.look(0, 2, 0), -1);
        Check.refused(x, "look(0, 0, 2)", () -> x.look(0, 0, 2), -2);
        Check.refused(x, "look(0, 1, -1)", () -> x.look(0, 1, -1), -2);
    }

    private static void orders() {
        // MINUTES by weight: 3, 2, 5 by 4, 2
        Watched x = Check.with("p01,3;p11,2;p21,5;p01,2;");
        Check.due("the sum, asked for first", x.orderSum(), 48);
        int[] due = {2, 1, 3, 0, -9};
        for (int k = 0; k < due.length; k++) {
            Check.due("order(" + k + ")", x.order(k), due[k]);
        }
        Check.due("4 * 5, 7, 9, 12", x.orderSum(), 48);
        Check.tell(x, "d2,2;d0,1;");
        Check.due("how they stand tells nothing", x.order(0), 2);
        // 4 by 4 and 1 by 1 are equal: as they hang
        Watched y = Check.with("p21,4;p01,1;p21,4;");
        for (int k = 0; k < 3; k++) {
            Check.due("equal ones", y.order(k), k);
        }
        Check.due("16, 5, 36", y.orderSum(), 57);
    }

    private static void orderEdges() {
        Watched x = new Watched();
        Check.due("order(0) without LAMPS", x.order(0), -9);
        Check.refused(x, "order(-1)", () -> x.order(-1), -4);
        Check.refused(x, "orderSum() without LAMPS", x::orderSum, -3);
        Check.tell(x, "p01,9;");
        Check.due("order(0)", x.order(0), 0);
        Check.due("order(1)", x.order(1), -9);
        Check.due("order(greatest)", x.order(Integer.MAX_VALUE), -9);
        Check.due("orderSum()", x.orderSum(), 9);
    }

    private static void toldLooks() {
        Watched x = Check.with("p01,1;p01,1;p01,1;p01,1;p01,1;");
        Check.due("all are open", x.openTo(), 31);
        Check.due("judge without looks", x.judge(), -9);
        Check.due("live up to 2", x.told(2, 1), 1);
        Check.due("2, 3, 4", x.openTo(), 28);
        Check.due("not live up to 4", x.told(4, 0), 2);
        Check.due("2, 3", x.openTo(), 12);
        Check.due("it stays", x.openTo(), 12);
        Check.due("looks stay", x.count(8), 2);
        Check.due("not live up to 2", x.told(2, 0), 3);
        Check.due("none", x.openTo(), 0);
        Check.due("one more", x.told(1, 1), 4);
        Check.due("judge", x.judge(), 2);
        Check.due("no looks then", x.count(8), 0);
        Check.due("all are open", x.openTo(), 31);
        Check.due("told(0, 0)", x.told(0, 0), 1);
        Check.due("nothing is ahead of the first", x.judge(), 0);
        for (int k = 1; k <= 6; k++) {
            Check.due("told", x.told(0, 1), k);
        }
        Check.refused(x, "a seventh", () -> x.told(0, 1), -6);
        Check.refused(x, "a seventh, another answer", () -> x.told(0, 2), -2);
        Check.refused(x, "another answer", () -> x.told(0, -1), -2);
        Check.refused(x, "told(5, 2)", () -> x.told(5, 2), -1);
        Check.refused(x, "told(-1, 0)", () -> x.told(-1, 0), -1);
        Check.due("judge", x.judge(), -9);
        Check.due("no looks then either", x.count(8), 0);
    }

    /** A restored row may be shorter than the looks that were told of the longer one. */
    private static void toldLooksAndRestore() {
        Watched x = new Watched();
        Check.due("no LAMPS, no looks", x.judge(), -9);
        x.image();
        Check.tell(x, "p01,1;p01,1;p01,1;");
        x.told(2, 1);
        Check.due("just the last", x.openTo(), 4);
        x.restore();
        Check.due("looks stay", x.count(8), 1);
        Check.due("no LAMPS, none open", x.openTo(), 0);
        Check.due("judge", x.judge(), 0);
    }
}
