import java.math.BigInteger;
import java.util.List;
import java.util.function.Supplier;
import java.util.function.ToLongFunction;

/** "II. LOOKS" from LASTS on: each sentence that names a bound or one of several, on both sides of it. */
final class MindEdgesTest {
    private static final int HURT = 3;
    private static final int LIKELY = 7;

    private MindEdgesTest() {
    }

    public static void main(String[] args) {
        nothingComesOfIt();
        lastsZero();
        lastsOne();
        lastsFourHundred();
        lastsFromNow();
        nextOne();
        nextFourHundred();
        nextOfSeveral();
        nextThatIsNow();
        nextNone();
        bridgedZero();
        bridgedOrMore();
        bridgedFourHundred();
        bridgedTwelve();
        stopAbove();
        stopAllLessOne();
        stopWhateverTheyAre();
        lightZero();
        lightAsEachHourBegins();
        lightTwoHundred();
        keepsOne();
        keepsAheadOfAnHour();
        keepsPutAnew();
        keepsTwoHundred();
        allAnewUpToFifty();
        allAnewTheFirstToo();
        allAnewOfLooseOnes();
        allAnewOfRustedOnes();
        joinedByFlow();
        joinedAtLeastOne();
        joinedNotLive();
        twoOfEight();
        twoNinetyNineAtMost();
        twoInLeastTerms();
        drawsOfSeedOne();
        drawsWrapAround();
        drawsWithoutTheSign();
        seedsOneAndFifty();
        seedsAheadOfEachHour();
        Check.close("MindEdgesTest");
    }

    private static void nothingComesOfIt() {
        Check.sentence("in mind");
        List<ToLongFunction<Watched>> calls = List.of(Watched::flow, Watched::lasts, x -> x.next(0), x -> x.next(1),
            x -> x.bridged(1), x -> x.bridged(2), Watched::stop, x -> x.light(7), x -> x.light(200), x -> x.keeps(7),
            x -> x.keeps(200), Watched::allAnew, Watched::joined, x -> x.two(0), x -> x.two(1), x -> x.seeds(50, 9),
            x -> x.find(0, 5, 0), x -> x.find(1, 4, 1), x -> x.look(0, 5, 0), x -> x.look(1, 4, 1), x -> x.order(2),
            Watched::orderSum, Watched::openTo, x -> x.meter(0, 5), x -> x.finder(5), x -> x.lamp(5, 7));
        for (int k = 0; k < calls.size(); k++) {
            Check.answers(States::ofAllKinds, "call " + k, calls.get(k), calls.get(k).applyAsLong(States.ofAllKinds()));
        }
    }

    private static void lastsZero() {
        Check.sentence("LASTS: after how many HOURS (0 .. 400) it is not LIVE: 0");
        Check.due("no LAMPS", new Watched().lasts(), 0);
        Check.due("OPEN", Check.with("p099,1;p099,1;u1;d0,1;").lasts(), 0);
        Check.due("HANGING", Check.with("p099,1;p099,1;u1;d1,3;").lasts(), 0);
        Check.due("all BRIDGED", Check.with("p099,1;p099,1;u1;d0,2;d1,2;").lasts(), 0);
        Check.due("one BRIDGED", Check.with("p099,1;p099,1;u1;d0,2;").lasts(), -9);
    }

    private static void lastsOne() {
        Check.sentence("LASTS: 1");
        Check.due("a LAMP", Check.with("p01,1;u100;").lasts(), 1);
        Check.due("a BRIDGER, the only one", Check.with("p11,1;u100;").lasts(), 1);
        Check.due("a MELTING one", Check.with("p41,1;u100;").lasts(), 1);
        Check.due("a RUSTED one, GRIP 5", Check.with("p399,1;u1;g5;").lasts(), 1);
        Check.due("a BRIDGER of two", Check.with("p11,1;p099,1;u200;").lasts(), 1 + 49);
    }

    private static void lastsFourHundred() {
        Check.sentence("LASTS: 400; -9");
        // alone, with PUSH 10, HURT is 1 each HOUR
        Check.due("a LAMP, 400", Check.with("p040,1;u10;").lasts(), 400);
        Check.due("a BRIDGER, 400", Check.with("p140,1;u10;").lasts(), 400);
        Check.due("a LAMP, 410", Check.with("p041,1;u10;").lasts(), -9);
        Watched x = Check.with("p041,1;u10;");
        for (int left = 410; left > 398; left--) {
            Check.due("lasts " + left, x.lasts(), left > 400 ? -9 : left);
            x.hour();
        }
    }

    private static void lastsFromNow() {
        Check.sentence("LASTS (in mind, from now)");
        Watched x = Check.with("p09,1;p299,1;u200;g8;");
        for (int left = 9; left >= 1; left--) {
            Check.due("lasts", x.lasts(), left);
            x.hour();
        }
        Check.due("lasts", x.lasts(), 0);
    }

    private static void nextOne() {
        Check.sentence("NEXT: after how many HOURS (1 .. 400): 1");
        String[] rows = {"p099,1;p01,1;u200;", "p199,1;p11,1;u200;", "p099,1;p41,1;u200;", "p099,1;p399,1;u1;g5;"};
        for (String row : rows) {
            Watched x = Check.with(row);
            Check.due("which of " + row, x.next(0), 1);
            Check.due("when of " + row, x.next(1), 1);
            Check.due("so it is", x.hour(), 1);
            Check.due("that one", x.lamp(1, 4) == 0 ? 1 : 0, 0);
        }
    }

    private static void nextFourHundred() {
        Check.sentence("NEXT: 400; -9");
        Watched x = Check.with("p141,1;u10;");
        for (int left = 410; left > 398; left--) {
            Check.due("next(1), " + left, x.next(1), left > 400 ? -9 : left);
            Check.due("next(0), " + left, x.next(0), left > 400 ? -9 : 0);
            x.hour();
        }
    }

    private static void nextOfSeveral() {
        Check.sentence("NEXT: of several the least");
        Watched x = Check.with("p099,1;p05,1;p15,1;p05,1;u400;");
        Check.due("of 1, 2, 3", x.next(0), 1);
        Check.due("when", x.next(1), 5);
        Check.due("the later one first", Check.with("p05,1;p04,1;p04,1;u300;").next(0), 1);
        Check.due("the last alone", Check.with("p05,1;p05,1;p04,1;u300;").next(0), 2);
    }

    private static void nextThatIsNow() {
        Check.sentence("NEXT: the first that is no more WELL that is now");
        for (int how = 1; how <= 3; how++) {
            Watched x = Check.with("p299,1;p299,1;p299,1;u1;g2;d0," + how + ";");
            Check.due("the first is " + how, x.next(0), 1);
            Check.due("when", x.next(1), 3);
        }
        Check.due("none is WELL", Check.with("p299,1;p299,1;d0,1;d1,3;").next(0), -9);
    }

    private static void nextNone() {
        Check.sentence("NEXT: -9");
        Check.due("no LAMPS, which", new Watched().next(0), -9);
        Check.due("no LAMPS, when", new Watched().next(1), -9);
        Watched dark = Check.with("p01,1;p01,1;u999;d0,1;");
        Check.due("not LIVE, which", dark.next(0), -9);
        Check.due("not LIVE, when", dark.next(1), -9);
    }

    private static void bridgedZero() {
        Check.sentence("BRIDGED n: after how many HOURS (0 .. 400): 0");
        Check.due("0 of no LAMPS", new Watched().bridged(0), 0);
        Check.due("1 of no LAMPS", new Watched().bridged(1), -9);
        Watched x = Check.with("p099,1;p199,1;p099,1;u1;d0,2;d2,2;");
        int[] due = {0, 0, 0, -9};
        for (int n = 0; n <= 3; n++) {
            Check.due("2 are: bridged(" + n + ")", x.bridged(n), due[n]);
        }
    }

    private static void bridgedOrMore() {
        Check.sentence("BRIDGED n: n or more");
        // FLOW 1000, HURT 10 each HOUR: two at once after 5, the third with FLOW 2000 after 10
        Watched x = Check.with("p15,1;p15,1;p115,1;p099,1;u400;");
        int[] due = {0, 5, 5, 10, -9};
        for (int n = 0; n < due.length; n++) {
            Check.due("bridged(" + n + ")", x.bridged(n), due[n]);
        }
        Check.due("an UNLIKE one, too", Check.with("p52,1;u100;").bridged(1), 4);
        Check.due("none that is OPEN", Check.with("p02,1;u100;").bridged(1), -9);
    }

    private static void bridgedFourHundred() {
        Check.sentence("BRIDGED n: 400; -9");
        Watched x = Check.with("p141,1;u10;");
        for (int left = 410; left > 398; left--) {
            Check.due("bridged(1), " + left, x.bridged(1), left > 400 ? -9 : left);
            x.hour();
        }
    }

    private static void bridgedTwelve() {
        Check.sentence("BRIDGED n: 12");
        Watched x = Check.withMany(12, "p11,1;", "u600;");
        // FLOW 500, BRIGHT 50, HURT 5
        Check.due("bridged(12) of 12", x.bridged(12), 2);
        Check.due("bridged(11) of 12", x.bridged(11), 2);
        x.hour();
        x.hour();
        Check.due("12 are", x.bridged(12), 0);
        Check.due("12 of 11", Check.withMany(11, "p11,1;", "u600;").bridged(12), -9);
    }

    private static void stopAbove() {
        Check.sentence("STOP: the least number of BRIDGED ones with which FLOW is above LIMIT");
        Watched x = Check.withMany(12, "p01,1;", "u120;");
        // 1200 by 12, 11, .. 1
        int[] flows = {100, 109, 120, 133, 150, 171, 200, 240, 300, 400, 600, 1200};
        for (int dead = 0; dead < 12; dead++) {
            if (flows[dead] <= 999) {
                x.set(2, flows[dead] - 1);
                Check.due("LIMIT just below " + flows[dead], x.stop(), dead);
                x.set(2, flows[dead]);
                Check.due("LIMIT " + flows[dead], x.stop(), dead + 1);
            }
        }
        x.set(2, 999);
        Check.due("LIMIT 999", x.stop(), 11);
    }

    private static void stopAllLessOne() {
        Check.sentence("STOP: -9 (0 .. all less 1)");
        for (int lamps = 1; lamps <= 12; lamps++) {
            Watched x = Check.withMany(lamps, "p01,1;", "u99;");
            x.set(2, 989);
            Check.due("990 is above 989, of " + lamps, x.stop(), lamps - 1);
            x.set(2, 990);
            Check.due("990 is not above 990, of " + lamps, x.stop(), -9);
        }
    }

    private static void stopWhateverTheyAre() {
        Check.sentence("STOP: if all LAMPS were LAMPS of KIND 0 and else WELL");
        for (int kind = 0; kind <= 5; kind++) {
            for (int how = 0; how <= 3; how++) {
                String one = "p" + kind + "9,1;";
                Watched x = Check.with(one + one + one + "u30;d0," + how + ";d1," + how + ";d2," + how + ";");
                int[] limits = {99, 100, 149, 150, 299, 300};
                int[] due = {0, 1, 1, 2, 2, -9};
                for (int k = 0; k < limits.length; k++) {
                    x.set(2, limits[k]);
                    Check.due("KIND " + kind + " that is " + how + ", LIMIT " + limits[k], x.stop(), due[k]);
                }
            }
        }
    }

    private static void lightZero() {
        Check.sentence("LIGHT: n HOURS (0 .. 200): 0");
        Check.due("no HOURS", Check.with("p099,1;u10;").light(0), 0);
        Check.due("one HOUR", Check.with("p099,1;u10;").light(1), 10);
        Check.due("no LAMPS", new Watched().light(1), 0);
    }

    private static void lightAsEachHourBegins() {
        Check.sentence("LIGHT: all BRIGHT together, as each HOUR begins");
        // BRIGHT 100 alone; it is dead after 3
        Watched x = Check.with("p03,1;u100;");
        int[] due = {0, 100, 200, 300, 300, 300};
        for (int n = 0; n < due.length; n++) {
            Check.due("light(" + n + ")", x.light(n), due[n]);
        }
        // 20 and 20 till the BRIDGER goes after 5, then 40 of the other alone
        Watched y = Check.with("p11,1;p099,1;u40;");
        Check.due("light(4)", y.light(4), 160);
        Check.due("light(5)", y.light(5), 200);
        Check.due("light(6)", y.light(6), 240);
        Check.due("light of all kinds, 70 70 70 105 42 140",
            Check.with("p09,1;p19,1;p29,1;p39,1;p49,1;p59,1;u500;").light(1), 497);
    }

    private static void lightTwoHundred() {
        Check.sentence("LIGHT: 200");
        Check.due("199 HOURS", Check.with("p099,1;u1;").light(199), 199);
        Check.due("200 HOURS", Check.with("p099,1;u1;").light(200), 200);
    }

    private static void keepsOne() {
        Check.sentence("KEEPS: each one that is OPEN, BRIDGED or HANGING");
        int[] due = {0, 1, 1, 1};
        for (int how = 0; how <= 3; how++) {
            Watched x = Check.with("p099,1;p099,1;u1;d0," + how + ";");
            Check.due("keeps(1), one is " + how, x.keeps(1), due[how]);
        }
        Check.due("all kinds of dead ones", Check.with("p09,1;p09,1;p09,1;p09,1;u1;d0,1;d1,2;d2,3;").keeps(1), 3);
        Check.due("no LAMPS", new Watched().keeps(1), 0);
    }

    private static void keepsAheadOfAnHour() {
        Check.sentence("KEEPS: ahead of an HOUR");
        // it goes in each third HOUR: the last HOUR's dead are not put anew
        Watched x = Check.with("p03,1;u100;");
        int[] due = {0, 0, 0, 1, 1, 1, 2, 2, 2, 3};
        for (int n = 1; n <= due.length; n++) {
            Check.due("keeps(" + n + ")", x.keeps(n), due[n - 1]);
        }
    }

    private static void keepsPutAnew() {
        Check.sentence("KEEPS: put anew (as by SWAP, but out of no SPARES)");
        Watched x = Check.with("p03,1;p05,1;u200;");
        x.set(1, 0);
        // one goes after 3, 6, 9; the other, which is put anew only when it is dead, after 5, 10
        int[] due = {0, 0, 0, 1, 1, 2, 3, 3, 3, 4, 5};
        for (int n = 1; n <= due.length; n++) {
            Check.due("keeps(" + n + ")", x.keeps(n), due[n - 1]);
        }
        x.hour();
        x.hour();
        Check.due("HURT counts from now", x.keeps(2), 1);
        Check.due("SPARES", x.set(1, 0), 0);
        Watched y = Check.with("p03,1;u100;");
        y.set(1, 99);
        Check.due("keeps(200)", y.keeps(200), 66);
        Check.due("SPARES", y.set(1, 0), 99);
    }

    private static void keepsTwoHundred() {
        Check.sentence("KEEPS n HOURS (1 .. 200)");
        // it dies in each HOUR
        Watched x = Check.with("p01,1;u100;");
        Check.due("keeps(199)", x.keeps(199), 198);
        Check.due("keeps(200)", x.keeps(200), 199);
        Check.due("keeps(200) of 12", Check.withMany(12, "p41,1;", "u999;").keeps(200), 199 * 12);
    }

    private static void allAnewUpToFifty() {
        Check.sentence("ALL ANEW: the greatest h (1 .. 50)");
        // HURT 10 each HOUR: it lasts as many as its LIFE
        for (int life = 1; life <= 99; life++) {
            Check.due("LIFE " + life, Check.with("p0" + life + ",1;u100;").allAnew(), Math.min(life, 50));
        }
        for (int life = 1; life <= 30; life++) {
            Check.due("an UNLIKE one, LIFE " + life, Check.with("p5" + life + ",1;u100;").allAnew(),
                Math.min(2 * life, 50));
        }
    }

    private static void allAnewTheFirstToo() {
        Check.sentence("ALL ANEW: ahead of each h-th HOUR (the first, too)");
        for (int how = 0; how <= 3; how++) {
            Watched x = Check.with("p09,1;u100;");
            for (int h = 0; h < 5; h++) {
                x.hour();
            }
            Check.tell(x, "d0," + how + ";");
            Check.due("HURT 50, it is " + how, x.allAnew(), 9);
            Check.due("HURT as it was", x.lamp(0, HURT), 50);
        }
    }

    private static void allAnewOfLooseOnes() {
        Check.sentence("ALL ANEW: LIVE as each of 60 HOURS begins, a LOOSE one");
        // HANGING in HOUR t and each tenth behind it, it must be put anew ahead of t and 1, t and 11, ..
        int[] due = {1, 2, 1, 2, 5, 2, 1, 2, 1, 10};
        for (int grip = 1; grip <= 9; grip++) {
            Watched x = Check.with("p299,1;u1;g" + grip + ";");
            for (int h = 0; h < 12; h++) {
                Check.due("GRIP " + grip + ", HOUR " + h, x.allAnew(), due[(grip - h + 20) % 10]);
                x.hour();
            }
        }
    }

    private static void allAnewOfRustedOnes() {
        Check.sentence("ALL ANEW: LIVE as each of 60 HOURS begins, a RUSTED one");
        for (int grip = 1; grip <= 9; grip++) {
            Watched x = Check.with("p399,1;u1;g" + grip + ";");
            for (int h = 0; h < 12; h++) {
                Check.due("GRIP " + grip + ", HOUR " + h, x.allAnew(), (grip - h + 20) % 5 == 4 ? 5 : 1);
                x.hour();
            }
        }
    }

    private static Watched withFlow(int flow) {
        Watched x = Check.with("p599,1;p599,1;p599,1;p599,1;p599,1;u" + flow + ";");
        Check.due("FLOW", x.flow(), flow);
        return x;
    }

    private static void joinedByFlow() {
        Check.sentence("JOINED: LIMIT by (FLOW by 10, cut), cut");
        int[][] rows = {{20, 100, 50}, {29, 100, 50}, {30, 100, 33}, {30, 99, 33}, {30, 98, 32}, {990, 99, 1},
            {990, 98, 0}, {999, 100, 1}, {999, 999, 10}, {999, 989, 9}, {999, 990, 10}};
        for (int[] row : rows) {
            Watched x = withFlow(row[0]);
            x.set(2, row[1]);
            Check.due("FLOW " + row[0] + ", LIMIT " + row[1], x.joined(), row[2]);
        }
    }

    private static void joinedAtLeastOne() {
        Check.sentence("JOINED: 1 at least");
        int[] flows = {1, 9, 10, 19, 20};
        int[] due = {999, 999, 999, 999, 499};
        for (int k = 0; k < flows.length; k++) {
            Watched x = withFlow(flows[k]);
            x.set(2, 999);
            Check.due("FLOW " + flows[k], x.joined(), due[k]);
            x.set(2, 1);
            Check.due("LIMIT 1, FLOW " + flows[k], x.joined(), k < 4 ? 1 : 0);
        }
        Watched none = Check.withMany(12, "p51,1;", "u1;");
        Check.due("FLOW 0, LIVE", none.joined(), 100);
    }

    private static void joinedNotLive() {
        Check.sentence("JOINED: 0 if it is not LIVE");
        Check.due("no LAMPS", new Watched().joined(), 0);
        Check.due("OPEN", Check.with("p01,1;u1;d0,1;").joined(), 0);
        Check.due("BRIDGED", Check.with("p01,1;u1;d0,2;").joined(), 0);
        Check.due("HANGING", Check.with("p01,1;u1;d0,3;").joined(), 0);
        Check.due("WELL", Check.with("p01,1;u1;d0,0;").joined(), 100);
    }

    /** Over all sets of dead ones, by hundredths that are told. */
    private static BigInteger[] chanceOfTwo(int[] hundredths) {
        BigInteger some = BigInteger.ZERO;
        BigInteger more = BigInteger.ZERO;
        for (int set = 1; set < 1 << hundredths.length; set++) {
            BigInteger chance = BigInteger.ONE;
            for (int i = 0; i < hundredths.length; i++) {
                boolean dead = (set >> i & 1) == 1;
                chance = chance.multiply(BigInteger.valueOf(dead ? hundredths[i] : 100 - hundredths[i]));
            }
            some = some.add(chance);
            more = Integer.bitCount(set) >= 2 ? more.add(chance) : more;
        }
        BigInteger shared = some.gcd(more);
        return new BigInteger[] {more.divide(shared), some.divide(shared)};
    }

    private static void isChance(Watched x, int... hundredths) {
        BigInteger[] due = chanceOfTwo(hundredths);
        for (int part = 0; part < 2; part++) {
            Check.due("two(" + part + ") of " + hundredths.length, x.two(part), due[part].longValueExact());
        }
    }

    private static void twoOfEight() {
        Check.sentence("TWO (8 LAMPS at most)");
        int[] hundredths = {1, 1, 4, 4, 1, 1, 1, 4, 4};
        String[] row = {"p01,1;", "p11,1;", "p21,1;", "p31,1;", "p41,1;", "p51,1;", "p01,1;", "p21,1;", "p31,1;"};
        Watched x = new Watched();
        for (int lamps = 1; lamps <= 9; lamps++) {
            Check.tell(x, row[lamps - 1]);
            if (lamps <= 8) {
                isChance(x, java.util.Arrays.copyOf(hundredths, lamps));
            } else {
                Check.due("two(0) of 9", x.two(0), 4000000000000000006L);
            }
        }
    }

    private static Watched hurtLamp(int hurt) {
        Watched x = Check.with("p099,1;u990;");
        for (int left = hurt; left > 0; left -= 99) {
            x.set(0, Math.min(left, 99) * 10);
            x.hour();
        }
        Check.due("HURT", x.lamp(0, HURT), hurt);
        return x;
    }

    private static void twoNinetyNineAtMost() {
        Check.sentence("TWO: LIKELY, 99 at most");
        int[] hurts = {970, 979, 980, 989, 990};
        int[] hundredths = {98, 98, 99, 99, 99};
        for (int k = 0; k < hurts.length; k++) {
            Watched x = hurtLamp(hurts[k]);
            Check.due("LIKELY", x.lamp(0, LIKELY), hurts[k] / 10 + 1);
            Check.tell(x, "p21,1;");
            isChance(x, hundredths[k], 4);
        }
        // a RUSTED one, of HURT 9999, is LIKELY by 1003
        Watched rusted = Check.with("p399,1;u990;");
        for (int h = 0; h < 102; h++) {
            rusted.hour();
            rusted.touch(0);
            if (rusted.lamp(0, 4) != 0) {
                rusted.touch(0);
            }
        }
        Check.due("LIKELY", rusted.lamp(0, LIKELY), 1003);
        Check.tell(rusted, "p11,1;");
        isChance(rusted, 99, 1);
        // 8 of HURT 996, so the greatest numbers above and below the line
        Watched full = Check.withMany(8, "p099,1;", "u999;");
        for (int h = 0; h < 83; h++) {
            full.hour();
        }
        Check.due("LIKELY of the last", full.lamp(7, LIKELY), 100);
        isChance(full, 99, 99, 99, 99, 99, 99, 99, 99);
    }

    private static void twoInLeastTerms() {
        Check.sentence("TWO: if at least one is: a fraction in least terms");
        Watched one = Check.with("p21,1;");
        Check.due("one lamp, above", one.two(0), 0);
        Check.due("one lamp, below", one.two(1), 1);
        // 16 of 784
        Watched two = Check.with("p21,1;p31,1;");
        Check.due("4 and 4, above", two.two(0), 1);
        Check.due("4 and 4, below", two.two(1), 49);
        for (int how = 0; how <= 3; how++) {
            Check.tell(two, "d0," + how + ";");
            Check.due("whatever it is", two.two(1), 49);
        }
    }

    /** The lamp that is drawn first: just one of them is LOOSE, and a touch shows. */
    private static int drawn(int lamps, int seed) {
        int found = -1;
        for (int at = 0; at < lamps; at++) {
            Watched x = new Watched();
            for (int i = 0; i < lamps; i++) {
                Check.tell(x, i == at ? "p299,1;" : "p099,1;");
            }
            x.set(0, 1);
            int well = x.seeds(1, seed);
            Check.due("one is touched at most", well == lamps || well == lamps - 1 ? 1 : 0, 1);
            if (well == lamps - 1) {
                Check.due("just one is drawn", found, -1);
                found = at;
            }
        }
        return found;
    }

    private static int drawBelow(int seed, int times, int n) {
        BigInteger z = BigInteger.valueOf(seed);
        for (int k = 0; k < times; k++) {
            z = z.multiply(BigInteger.valueOf(1103515245)).add(BigInteger.valueOf(12345));
        }
        return z.mod(BigInteger.TWO.pow(31)).divide(BigInteger.valueOf(65536)).intValueExact() % n;
    }

    private static void drawsOfSeedOne() {
        Check.sentence("DRAWS: z becomes z times 1103515245 and 12345");
        // what this well-known row of draws is from 1 on
        int[] draws = {16838, 5758, 10113, 17515, 31051, 5627, 23010, 7419, 16212};
        int lamps = 7;
        for (int at = 0; at < lamps; at++) {
            // HOURS 2 .. 10, so the clock lets LOOSE ones alone
            Watched x = Check.with("p099,1;".repeat(at) + "p299,1;" + "p099,1;".repeat(lamps - 1 - at) + "u1;g1;");
            x.hour();
            x.hour();
            Check.tell(x, "d" + at + ",0;");
            int touches = 0;
            for (int n = 1; n <= draws.length; n++) {
                touches += draws[n - 1] % lamps == at ? 1 : 0;
                Check.due("seeds(" + n + ", 1), LOOSE is " + at, x.seeds(n, 1), lamps - touches % 2);
            }
        }
    }

    private static void drawsWrapAround() {
        Check.sentence("DRAWS: (an int)");
        int[] seeds = {0, 1, 2, -1, -2, 65535, 65536, -65536, 1103515245, Integer.MAX_VALUE, Integer.MIN_VALUE,
            Integer.MAX_VALUE - 1, Integer.MIN_VALUE + 1, 123456789, -987654321};
        for (int seed : seeds) {
            for (int lamps = 1; lamps <= 12; lamps++) {
                Check.due("seed " + seed + " of " + lamps, drawn(lamps, seed), drawBelow(seed, 1, lamps));
            }
        }
    }

    private static void drawsWithoutTheSign() {
        Check.sentence("a DRAW below n is (z without its sign's bit by 65536, cut) modulo n");
        // z and z with another sign's bit draw alike
        for (int seed = -5; seed <= 5; seed++) {
            Check.due("seed " + seed, drawn(11, seed), drawn(11, seed ^ Integer.MIN_VALUE));
        }
        // the second draw goes by all of z, not by what was drawn
        for (int seed = 0; seed < 12; seed++) {
            for (int at = 0; at < 3; at++) {
                Watched x = Check.with("p099,1;".repeat(at) + "p299,1;" + "p099,1;".repeat(2 - at) + "u1;g3;");
                int touches = (drawBelow(seed, 1, 3) == at ? 1 : 0) + (drawBelow(seed, 2, 3) == at ? 1 : 0);
                Check.due("seeds(2, " + seed + ")", x.seeds(2, seed), 3 - touches % 2);
            }
        }
    }

    private static void seedsOneAndFifty() {
        Check.sentence("SEEDS: n HOURS (1 .. 50)");
        // a LAMP that lasts 49, 50, 51 HOURS
        for (int life = 49; life <= 51; life++) {
            Watched x = Check.with("p0" + life + ",1;u100;");
            Check.due("LIFE " + life + ", 49 HOURS", x.seeds(49, 7), life > 49 ? 1 : 0);
            Check.due("LIFE " + life + ", 50 HOURS", x.seeds(50, 7), life > 50 ? 1 : 0);
        }
        Check.due("LIFE 1, 1 HOUR", Check.with("p01,1;u100;").seeds(1, 7), 0);
        Check.due("LIFE 2, 1 HOUR", Check.with("p02,1;u100;").seeds(1, 7), 1);
        Check.due("LIFE 2, 2 HOURS", Check.with("p02,1;u100;").seeds(2, 7), 0);
    }

    private static void seedsAheadOfEachHour() {
        Check.sentence("SEEDS: ahead of each HOUR that one is touched (TOUCH)");
        // it hangs now: the touch comes first, so it is LIVE in the HOUR, and dies of it
        Watched x = Check.with("p01,1;u100;d0,3;");
        Check.due("touched, then dead", x.seeds(1, 3), 0);
        Watched y = Check.with("p02,1;u100;d0,3;");
        Check.due("touched, then HURT", y.seeds(1, 3), 1);
        Check.due("dead after two HOURS", y.seeds(2, 3), 0);
        // GRIP 3: a touch makes it hang, and the next one WELL, but HOUR 3 makes it hang again; GRIP 4: it stays
        Watched z = Check.with("p299,1;u1;g3;");
        int[] due = {0, 1, 0, 0, 1, 0};
        for (int n = 1; n <= due.length; n++) {
            Check.due("GRIP 3, seeds(" + n + ", 3)", z.seeds(n, 3), due[n - 1]);
        }
        z.set(3, 4);
        int[] dueThen = {1, 1, 1, 1, 0, 1};
        for (int n = 1; n <= dueThen.length; n++) {
            Check.due("GRIP 4, seeds(" + n + ", 3)", z.seeds(n, 3), dueThen[n - 1]);
        }
        Supplier<Watched> open = () -> Check.with("p299,1;u1;d0,1;");
        Check.answers(open, "OPEN stays OPEN", w -> w.seeds(50, 3), 0);
    }
}
