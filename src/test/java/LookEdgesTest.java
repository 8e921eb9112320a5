import java.util.ArrayList;
import java.util.List;

/** "II. LOOKS" up to JUDGED: each sentence that names a bound or one of several, on both sides of it. */
final class LookEdgesTest {
    private static final int HURT = 3;
    private static final int HOW = 4;
    private static final int LIKELY = 7;

    private LookEdgesTest() {
    }

    public static void main(String[] args) {
        swapPutsAGoodOneIn();
        swapTakesOneSpare();
        swapTellsWhetherItIsLive();
        meterFromHereToThere();
        finderAheadOfHere();
        touchOfWhatHangs();
        touchOfWhatIsLoose();
        touchOfOthers();
        likelyIsCut();
        likelyOfLooseOnes();
        likelyOfBridgers();
        likelyWhateverItIs();
        findOfOne();
        findOfTwo();
        findByAllTrees();
        leastFirstPlace();
        minutesOfTheFirst();
        searchesAfterHurt();
        orderByAllOrders();
        orderOfSeveral();
        orderOfKth();
        orderOfAllLamps();
        openToOneLook();
        openToSeveralLooks();
        openToWithoutLamps();
        openToStays();
        openToLampsThatComeLater();
        sixLooks();
        judgedFromZero();
        judgedNone();
        judgeTakesThemAway();
        Check.close("LookEdgesTest");
    }

    private static void swapPutsAGoodOneIn() {
        Check.sentence("SWAP: a good one (a new LAMP of the same KIND and LIFE, WELL, HURT 0)");
        for (int kind = 0; kind <= 5; kind++) {
            for (int how = 0; how <= 3; how++) {
                Watched x = Check.with("p" + kind + "98,7;p099,5;u100;g9;");
                x.hour();
                Check.tell(x, "d0," + how + ";");
                int others = x.lamp(1, HURT);
                Check.due("both are HURT", x.count(9) > others && others > 0 ? 1 : 0, 1);
                x.swap(0);
                int[] due = {kind, 98, 7, 0, 0};
                for (int what = 0; what < due.length; what++) {
                    Check.due("KIND " + kind + ", it was " + how + ": lamp(0, " + what + ")", x.lamp(0, what), due[what]);
                }
                Check.due("HURT of the other", x.lamp(1, HURT), others);
                Check.due("HOUR", x.count(5), 1);
                Check.due("LAMPS", x.count(0), 2);
            }
        }
    }

    private static void swapTakesOneSpare() {
        Check.sentence("if there are SPARES (one less then)");
        for (int spares : new int[] {1, 2, 3, 99}) {
            Watched x = Check.with("p01,1;");
            x.set(1, spares);
            for (int left = spares; left >= 1; left--) {
                Check.due("swap, " + left + " SPARES", x.swap(0), 1);
            }
            Check.due("none is left", x.swap(0), -3);
            Check.due("SPARES", x.set(1, 7), 0);
            Check.due("swap", x.swap(0), 1);
            Check.due("SPARES", x.set(1, 0), 6);
        }
        Watched first = Check.with("p01,1;");
        for (int k = 0; k < 4; k++) {
            Check.due("3 SPARES at first", first.swap(0), k < 3 ? 1 : -3);
        }
    }

    private static void swapTellsWhetherItIsLive() {
        Check.sentence("LIVE then: 1, 0");
        for (int how = 0; how <= 3; how++) {
            Watched x = Check.with("p01,1;p01,1;d0,1;d1," + how + ";");
            Check.due("the other one is " + how, x.swap(0), how % 2 == 0 ? 1 : 0);
        }
        Check.due("all were BRIDGED", Check.with("p01,1;p01,1;d0,2;d1,2;").swap(1), 1);
    }

    private static void meterFromHereToThere() {
        Check.sentence("METER from i to j: whether none of LAMPS i .. j is OPEN or HANGING");
        for (int dead = 0; dead < 5; dead++) {
            for (int how = 0; how <= 3; how++) {
                Watched x = Check.with("p01,1;p01,1;p01,1;p01,1;p01,1;d" + dead + "," + how + ";");
                for (int i = 0; i < 5; i++) {
                    for (int j = i; j < 5; j++) {
                        boolean whole = how == 0 || how == 2 || dead < i || dead > j;
                        Check.due(dead + " is " + how + ": meter(" + i + ", " + j + ")", x.meter(i, j), whole ? 1 : 0);
                    }
                }
            }
        }
        Check.due("all BRIDGED, not LIVE, but whole", Check.with("p01,1;p01,1;d0,2;d1,2;").meter(0, 1), 1);
    }

    private static void finderAheadOfHere() {
        Check.sentence("FINDER at i: whether none of LAMPS 0 .. i less 1 is OPEN or HANGING");
        for (int dead = 0; dead < 5; dead++) {
            for (int how = 0; how <= 3; how++) {
                Watched x = Check.with("p01,1;p01,1;p01,1;p01,1;p01,1;d" + dead + "," + how + ";");
                for (int i = 0; i < 5; i++) {
                    boolean live = how == 0 || how == 2 || dead >= i;
                    Check.due(dead + " is " + how + ": finder(" + i + ")", x.finder(i), live ? 1 : 0);
                }
            }
        }
        Check.due("all BRIDGED", Check.with("p01,1;p01,1;d0,2;d1,2;").finder(1), 1);
    }

    private static Watched touched(int kind, int how, int grip) {
        return Check.with("p" + kind + "9,1;p29,1;d0," + how + ";g" + grip + ";");
    }

    private static void touchOfWhatHangs() {
        Check.sentence("TOUCH: a HANGING one is WELL");
        for (int kind = 0; kind <= 5; kind++) {
            for (int grip = 1; grip <= 9; grip++) {
                Watched x = touched(kind, 3, grip);
                Check.due("KIND " + kind + ", GRIP " + grip, x.touch(0), 0);
                Check.due("it is so", x.lamp(0, HOW), 0);
                Check.due("the other one", x.lamp(1, HOW), 0);
            }
        }
    }

    private static void touchOfWhatIsLoose() {
        Check.sentence("WELL and LOOSE or RUSTED stays so, if GRIP is above 3, else it is HANGING then");
        for (int kind = 2; kind <= 3; kind++) {
            for (int grip = 1; grip <= 9; grip++) {
                Watched x = touched(kind, 0, grip);
                int due = grip <= 3 ? 3 : 0;
                Check.due("KIND " + kind + ", GRIP " + grip, x.touch(0), due);
                Check.due("it is so", x.lamp(0, HOW), due);
                Check.due("the other one", x.lamp(1, HOW), 0);
                Check.due("a second touch", x.touch(0), 0);
            }
        }
    }

    private static void touchOfOthers() {
        Check.sentence("TOUCH of others changes nothing");
        for (int grip = 1; grip <= 9; grip++) {
            for (int kind = 0; kind <= 5; kind++) {
                for (int how = 0; how <= 2; how++) {
                    boolean loose = kind == 2 || kind == 3;
                    if (how != 0 || !loose) {
                        Watched x = touched(kind, how, grip);
                        Check.due("KIND " + kind + " that is " + how + ", GRIP " + grip, x.touch(0), how);
                        Check.due("it is so", x.lamp(0, HOW), how);
                    }
                }
            }
        }
    }

    /** One lamp alone that is HURT by just so much; its BRIGHT is PUSH, if it is no MELTING one. */
    private static Watched hurtBy(int kind, int hurt) {
        Watched x = Check.with("p" + kind + "99,3;g9;");
        int left = hurt;
        while (left > 0) {
            int now = Math.min(left, 99);
            x.set(0, Math.min(999, (10 * now + 2) / 3 * 3));
            x.hour();
            if (x.lamp(0, HOW) == 3) {
                x.touch(0);
            }
            left -= now;
        }
        Check.due("HURT of KIND " + kind, x.lamp(0, HURT), hurt);
        return x;
    }

    private static void likelyIsCut() {
        Check.sentence("LIKELY of a lamp: its HURT by 10, cut, and 1");
        int[] hurts = {0, 1, 9, 10, 11, 19, 20, 979, 980, 989, 990};
        int[] due = {1, 1, 1, 2, 2, 2, 3, 98, 99, 99, 100};
        for (int k = 0; k < hurts.length; k++) {
            Check.due("HURT " + hurts[k], hurtBy(0, hurts[k]).lamp(0, LIKELY), due[k]);
        }
        Watched melting = Check.with("p499,1;u20;");
        for (int h = 0; h < 9; h++) {
            melting.hour();
        }
        Check.due("HURT of a MELTING one", melting.lamp(0, HURT), 9);
        Check.due("LIKELY of it", melting.lamp(0, LIKELY), 1);
        melting.hour();
        Check.due("LIKELY at 10", melting.lamp(0, LIKELY), 2);
    }

    private static void likelyOfLooseOnes() {
        Check.sentence("LIKELY of a LOOSE one (RUSTED, too) 3 more");
        for (int kind = 2; kind <= 3; kind++) {
            int[] hurts = {0, 9, 10, 19, 20};
            int[] due = {4, 4, 5, 5, 6};
            for (int k = 0; k < hurts.length; k++) {
                Check.due("KIND " + kind + ", HURT " + hurts[k], hurtBy(kind, hurts[k]).lamp(0, LIKELY), due[k]);
            }
        }
    }

    private static void likelyOfBridgers() {
        Check.sentence("LIKELY of a BRIDGER (UNLIKE, too) just 1, whatever its HURT");
        for (int hurt : new int[] {0, 9, 10, 20, 989}) {
            Check.due("BRIDGER, HURT " + hurt, hurtBy(1, hurt).lamp(0, LIKELY), 1);
            Check.due("UNLIKE, HURT " + hurt, hurtBy(5, hurt).lamp(0, LIKELY), 1);
        }
    }

    private static void likelyWhateverItIs() {
        Check.sentence("LIKELY, as WEIGHT, goes by KIND and HURT alone");
        int[] due = {1, 1, 4, 4, 1, 1};
        for (int kind = 0; kind <= 5; kind++) {
            for (int how = 0; how <= 3; how++) {
                Watched x = Check.with("p" + kind + "9,1;d0," + how + ";");
                Check.due("KIND " + kind + " that is " + how, x.lamp(0, LIKELY), due[kind]);
            }
        }
    }

    private static void findOfOne() {
        Check.sentence("till it is of one lamp; BEST LOOK: -9 (i is j)");
        Watched x = Check.withMany(12, "p21,9;", "");
        for (int i = 0; i < 12; i++) {
            for (int what = 0; what < 2; what++) {
                Check.due("find(" + i + ", " + i + ", " + what + ")", x.find(i, i, what), 0);
                Check.due("look(" + i + ", " + i + ", " + what + ")", x.look(i, i, what), -9);
            }
        }
    }

    private static void findOfTwo() {
        Check.sentence("a place p from i and 1 to j (it takes MINUTES of lamp p)");
        Watched x = Check.with("p01,2;p21,3;p01,5;p31,7;");
        int[] mean = {5 * 3, 5 * 5, 5 * 7};
        int[] minutes = {3, 5, 7};
        for (int i = 0; i < 3; i++) {
            Check.due("MEAN of " + i + " and the next", x.find(i, i + 1, 0), mean[i]);
            Check.due("WORST of " + i + " and the next", x.find(i, i + 1, 1), minutes[i]);
            Check.due("its look by MEAN", x.look(i, i + 1, 0), i + 1);
            Check.due("its look by WORST", x.look(i, i + 1, 1), i + 1);
        }
    }

    /** All ways to look: what each lamp's finding takes, and (last) the first place. */
    private static List<int[]> waysToLook(int[] minutes, int i, int j) {
        List<int[]> ways = new ArrayList<>();
        if (i == j) {
            ways.add(new int[] {0, -9});
            return ways;
        }
        for (int p = i + 1; p <= j; p++) {
            List<int[]> behind = waysToLook(minutes, p, j);
            for (int[] before : waysToLook(minutes, i, p - 1)) {
                for (int[] after : behind) {
                    int[] way = new int[j - i + 2];
                    for (int lamp = i; lamp <= j; lamp++) {
                        way[lamp - i] = minutes[p] + (lamp < p ? before[lamp - i] : after[lamp - p]);
                    }
                    way[j - i + 1] = p;
                    ways.add(way);
                }
            }
        }
        return ways;
    }

    private static void searchAllStretches(Watched x) {
        int lamps = x.count(0);
        int[] minutes = new int[lamps];
        int[] weights = new int[lamps];
        for (int i = 0; i < lamps; i++) {
            minutes[i] = x.lamp(i, 2);
            weights[i] = x.lamp(i, LIKELY);
        }
        for (int i = 0; i < lamps; i++) {
            for (int j = i; j < lamps; j++) {
                searchOneStretch(x, i, j, minutes, weights);
            }
        }
    }

    private static void searchOneStretch(Watched x, int i, int j, int[] minutes, int[] weights) {
        int[] least = {Integer.MAX_VALUE, Integer.MAX_VALUE};
        int[] place = {-9, -9};
        for (int[] way : waysToLook(minutes, i, j)) {
            int[] cost = {0, 0};
            for (int lamp = i; lamp <= j; lamp++) {
                cost[0] += weights[lamp] * way[lamp - i];
                cost[1] = Math.max(cost[1], way[lamp - i]);
            }
            int first = way[j - i + 1];
            for (int what = 0; what < 2; what++) {
                if (cost[what] < least[what] || cost[what] == least[what] && first < place[what]) {
                    least[what] = cost[what];
                    place[what] = first;
                }
            }
        }
        for (int what = 0; what < 2; what++) {
            Check.due("find(" + i + ", " + j + ", " + what + ")", x.find(i, j, what), least[what]);
            Check.due("look(" + i + ", " + j + ", " + what + ")", x.look(i, j, what), place[what]);
        }
    }

    private static void findByAllTrees() {
        Check.sentence("MEAN: the least sum; WORST: the least of the greatest; BEST LOOK: the least first place");
        String[] rows = {"p01,1;p01,1;p01,1;p01,1;p01,1;p01,1;", "p21,9;p01,1;p31,8;p01,2;p21,7;p01,3;p41,5;",
            "p01,9;p01,8;p01,7;p01,6;p01,5;p01,4;p01,3;", "p01,1;p21,2;p01,3;p21,4;p01,5;p21,6;p01,7;",
            "p01,1;p01,9;p01,1;p01,9;p01,1;p01,9;p01,1;", "p31,4;p21,4;p11,4;p01,4;p51,4;p41,4;"};
        for (String row : rows) {
            searchAllStretches(Check.with(row));
        }
    }

    private static void leastFirstPlace() {
        Check.sentence("BEST LOOK: the least first place with which MEAN is had, with which WORST is had");
        // three alike: 1 and 2 cost the same by both
        Watched three = Check.with("p01,1;p01,1;p01,1;");
        Check.due("of 1 and 2 by MEAN", three.look(0, 2, 0), 1);
        Check.due("of 1 and 2 by WORST", three.look(0, 2, 1), 1);
        // 12 alike: WORST is 4; the first stretch may have 4 .. 8
        Watched full = Check.withMany(12, "p01,1;", "");
        Check.due("WORST of 12", full.find(0, 11, 1), 4);
        Check.due("of 4 .. 8 by WORST", full.look(0, 11, 1), 4);
        Check.due("MEAN of 12", full.find(0, 11, 0), 44);
        Check.due("of 4 .. 8 by MEAN", full.look(0, 11, 0), 4);
        Check.due("not from 0 on", full.look(4, 11, 1), 8);
        Check.due("up to the last but one", full.look(0, 10, 1), 3);
    }

    private static void minutesOfTheFirst() {
        Check.sentence("MINUTES of lamp i are never taken in i .. j");
        for (int minutes = 1; minutes <= 9; minutes++) {
            Watched x = Check.with("p01," + minutes + ";p01,1;p01,1;");
            Check.due("MEAN", x.find(0, 2, 0), 5);
            Check.due("WORST", x.find(0, 2, 1), 2);
        }
    }

    private static void searchesAfterHurt() {
        Check.sentence("with these weights: HURT makes a lamp LIKELY, not a BRIDGER");
        Watched x = Check.with("p099,2;p199,3;p299,1;p399,4;p499,2;p599,5;u300;g9;");
        for (int h = 0; h < 4; h++) {
            x.hour();
        }
        searchAllStretches(x);
        Watched y = Check.with("p099,2;p199,3;p299,1;p399,4;p599,5;p099,1;u999;g9;");
        for (int h = 0; h < 4; h++) {
            y.hour();
        }
        // 99900 by 75 is 1332, so HURT is 13 more each HOUR
        Check.due("LIKELY of a LAMP", y.lamp(0, LIKELY), 6);
        Check.due("LIKELY of a LOOSE one", y.lamp(2, LIKELY), 9);
        searchAllStretches(y);
    }

    /** All orders of so many, the least first. */
    private static void allOrders(List<int[]> into, int[] order, int used, int at) {
        if (at == order.length) {
            into.add(order.clone());
            return;
        }
        for (int i = 0; i < order.length; i++) {
            if ((used >> i & 1) == 0) {
                order[at] = i;
                allOrders(into, order, used | 1 << i, at + 1);
            }
        }
    }

    private static void orderIsLeast(Watched x) {
        int lamps = x.count(0);
        int[] minutes = new int[lamps];
        int[] weights = new int[lamps];
        for (int i = 0; i < lamps; i++) {
            minutes[i] = x.lamp(i, 2);
            weights[i] = x.lamp(i, LIKELY);
        }
        List<int[]> orders = new ArrayList<>();
        allOrders(orders, new int[lamps], 0, 0);
        int least = Integer.MAX_VALUE;
        int[] best = {};
        for (int[] order : orders) {
            int sum = 0;
            for (int k = 0; k < lamps; k++) {
                for (int till = 0; till <= k; till++) {
                    sum += weights[order[k]] * minutes[order[till]];
                }
            }
            if (sum < least) {
                least = sum;
                best = order;
            }
        }
        Check.due("orderSum()", x.orderSum(), least);
        for (int k = 0; k < lamps; k++) {
            Check.due("order(" + k + ")", x.order(k), best[k]);
        }
        Check.due("order(" + lamps + ")", x.order(lamps), -9);
    }

    private static void orderByAllOrders() {
        Check.sentence("ORDER: the k-th lamp of the order by which that is least; the sum");
        String[] rows = {"p01,1;", "p01,2;p01,1;", "p01,9;p21,9;p01,1;p21,4;", "p01,9;p01,8;p01,7;p01,6;p01,5;p01,4;",
            "p21,1;p01,1;p31,8;p51,2;p21,7;p41,3;p01,5;", "p21,4;p01,1;p21,8;p01,2;p31,4;p11,1;p01,2;",
            "p21,8;p01,2;p21,4;p01,1;p21,9;p01,2;p21,8;"};
        for (String row : rows) {
            orderIsLeast(Check.with(row));
        }
        Watched hurt = Check.with("p099,9;p199,3;p299,8;p399,4;p099,2;p599,5;u900;g9;");
        for (int h = 0; h < 4; h++) {
            hurt.hour();
        }
        orderIsLeast(hurt);
    }

    private static void orderOfSeveral() {
        Check.sentence("of several the one whose LAMPS, one behind the other, are the least");
        Watched full = Check.withMany(12, "p01,5;", "");
        for (int k = 0; k < 12; k++) {
            Check.due("12 alike: order(" + k + ")", full.order(k), k);
        }
        // 8 by 4, 2 by 1, 8 by 4 are alike; 1 by 1 is less
        Watched some = Check.with("p21,8;p01,2;p21,8;p01,1;");
        int[] due = {3, 0, 1, 2};
        for (int k = 0; k < 4; k++) {
            Check.due("some alike: order(" + k + ")", some.order(k), due[k]);
        }
    }

    private static void orderOfKth() {
        Check.sentence("order: the k-th lamp; -9 there is none such");
        for (int lamps = 0; lamps <= 12; lamps++) {
            Watched x = Check.withMany(lamps, "p01,1;", "");
            if (lamps > 0) {
                Check.due("the last of " + lamps, x.order(lamps - 1), lamps - 1);
            }
            Check.due("behind the last of " + lamps, x.order(lamps), -9);
            Check.due("far behind", x.order(12), -9);
            Check.due("farthest", x.order(Integer.MAX_VALUE), -9);
        }
    }

    private static void orderOfAllLamps() {
        Check.sentence("one swaps LAMPS (all)");
        for (int how = 0; how <= 3; how++) {
            Watched x = Check.with("p01,3;p01,1;p01,2;d0," + how + ";d1," + how + ";d2," + how + ";");
            int[] due = {1, 2, 0};
            for (int k = 0; k < 3; k++) {
                Check.due("all are " + how + ": order(" + k + ")", x.order(k), due[k]);
            }
            Check.due("the sum, 1, 3, 6", x.orderSum(), 10);
        }
    }

    private static void openToOneLook() {
        Check.sentence("OPEN TO: the LAMPS (bits) that may be the dead one");
        for (int lamps = 1; lamps <= 12; lamps++) {
            for (int place = 0; place < lamps; place++) {
                for (int answer = 0; answer <= 1; answer++) {
                    Watched x = Check.withMany(lamps, "p01,1;", "");
                    Check.due("all of " + lamps, x.openTo(), (1 << lamps) - 1);
                    Check.due("told", x.told(place, answer), 1);
                    int due = 0;
                    for (int dead = 0; dead < lamps; dead++) {
                        boolean live = dead >= place;
                        due += live == (answer == 1) ? 1 << dead : 0;
                    }
                    Check.due(lamps + " LAMPS, told(" + place + ", " + answer + ")", x.openTo(), due);
                    Check.due("judge", x.judge(), due == 0 ? 0 : -9);
                }
            }
        }
    }

    private static void openToSeveralLooks() {
        Check.sentence("if just one is, by all answers");
        Watched x = Check.withMany(12, "p01,1;", "");
        int[][] looks = {{6, 1}, {9, 0}, {7, 1}, {8, 0}, {7, 1}, {11, 0}};
        int[] due = {0xfc0, 0x1c0, 0x180, 0x080, 0x080, 0x080};
        for (int k = 0; k < 6; k++) {
            Check.due("told", x.told(looks[k][0], looks[k][1]), k + 1);
            Check.due("by " + (k + 1) + " looks", x.openTo(), due[k]);
        }
        Check.due("judge", x.judge(), -9);
        Watched dead = Check.with("p01,1;p01,1;p01,1;d0,1;d1,3;");
        Check.due("how they really are tells nothing", dead.openTo(), 7);
        dead.told(1, 1);
        Check.due("nor behind a look", dead.openTo(), 6);
    }

    private static void openToWithoutLamps() {
        Check.sentence("OPEN TO, no LAMPS at all");
        Watched x = new Watched();
        Check.due("openTo()", x.openTo(), 0);
        Check.due("no look can be told", x.told(0, 1), -1);
        Check.due("openTo()", x.openTo(), 0);
        Check.due("judge()", x.judge(), -9);
    }

    private static void openToStays() {
        Check.sentence("openTo: the told looks stay");
        Watched x = Check.with("p01,1;p01,1;p01,1;");
        x.told(1, 1);
        x.told(2, 0);
        for (int k = 0; k < 3; k++) {
            Check.due("openTo()", x.openTo(), 2);
            Check.due("told looks", x.count(8), 2);
        }
        Check.due("a third", x.told(0, 1), 3);
    }

    private static void openToLampsThatComeLater() {
        Check.sentence("OPEN TO: of the LAMPS that are there");
        Watched x = Check.with("p01,1;p01,1;");
        x.told(1, 1);
        Check.due("one", x.openTo(), 2);
        Check.tell(x, "p01,1;");
        Check.due("one more, behind it", x.openTo(), 6);
        Watched y = Check.with("p01,1;p01,1;");
        y.told(1, 0);
        Check.tell(y, "p01,1;");
        Check.due("none more, ahead of it", y.openTo(), 1);
    }

    private static void sixLooks() {
        Check.sentence("Told looks: 6 at most");
        Watched x = Check.with("p01,1;p01,1;");
        for (int k = 1; k <= 6; k++) {
            Check.due("told", x.told(1, 1), k);
            Check.due("told looks", x.count(8), k);
        }
        Check.due("a 7th that would leave none", x.told(1, 0), -6);
        Check.due("told looks", x.count(8), 6);
        Check.due("openTo()", x.openTo(), 2);
        Check.due("judge()", x.judge(), -9);
        Check.due("6 again: the first", x.told(1, 0), 1);
    }

    private static void judgedFromZero() {
        Check.sentence("JUDGED: the first (from 0) by which none is left");
        for (int at = 0; at < 6; at++) {
            for (int more = at; more < 6; more++) {
                Watched x = Check.with("p01,1;p01,1;p01,1;");
                for (int k = 0; k <= more; k++) {
                    // nothing is ahead of place 0, so a 0 there leaves none
                    x.told(k == at ? 0 : 1, k < at ? 1 : 0);
                }
                Check.due("look " + at + " of " + (more + 1), x.judge(), at);
            }
        }
        Watched both = Check.with("p01,1;p01,1;p01,1;");
        both.told(1, 1);
        both.told(2, 1);
        both.told(2, 0);
        Check.due("none by two that do not go together", both.judge(), 2);
    }

    private static void judgedNone() {
        Check.sentence("JUDGED: -9");
        Watched x = Check.with("p01,1;p01,1;p01,1;");
        Check.due("no looks", x.judge(), -9);
        x.told(1, 1);
        Check.due("some are left", x.judge(), -9);
        x.told(1, 1);
        x.told(2, 0);
        Check.due("one is left", x.judge(), -9);
    }

    private static void judgeTakesThemAway() {
        Check.sentence("judge: there are no told looks then");
        Watched x = Check.with("p01,1;p01,1;p01,1;");
        x.told(1, 1);
        Check.due("judge", x.judge(), -9);
        Check.due("told looks behind -9", x.count(8), 0);
        Check.due("all are open", x.openTo(), 7);
        x.told(0, 0);
        Check.due("judge", x.judge(), 0);
        Check.due("told looks behind an answer", x.count(8), 0);
        Check.due("all are open", x.openTo(), 7);
        Check.due("judge again", x.judge(), -9);
        Check.due("the next is the first", x.told(2, 1), 1);
    }
}
