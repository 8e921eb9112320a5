/** "A STRING is told in letters": each STATEMENT, both kinds of FAULT and their places, on both sides of each bound. */
final class StringEdgesTest {
    private static final String DIGITS = "0123456789";
    private static final String BEGINS = "pudg";
    /** Beginnings of a STATEMENT, each with all letters that may come next. */
    private static final String[][] MAY_COME = {
        {"", BEGINS},
        {"p", DIGITS}, {"p0", DIGITS}, {"p01", DIGITS + ","}, {"p012", ","}, {"p01,", DIGITS}, {"p012,", DIGITS},
        {"p01,1", ";"}, {"p012,1", ";"},
        {"u", DIGITS}, {"u1", DIGITS + ";"}, {"u12", DIGITS + ";"}, {"u123", ";"},
        {"d", DIGITS}, {"d0", DIGITS + ","}, {"d00", ","}, {"d0,", DIGITS}, {"d00,", DIGITS}, {"d0,1", ";"},
        {"d00,1", ";"},
        {"g", DIGITS}, {"g1", ";"}};

    private StringEdgesTest() {
    }

    public static void main(String[] args) {
        eachLetterInEachPlace();
        theEndIfSomethingLacks();
        atLeastOneStatement();
        formGoesByFormAlone();
        sixtyFourLetters();
        lettersAreNoMoreThen();
        kinds();
        lives();
        minutes();
        pushes();
        grips();
        lampsThatAreThere();
        howTheyAre();
        noRoom();
        placesOfKindTwo();
        theFirstOfSeveral();
        kindOneAheadOfKindTwo();
        oneBehindTheOther();
        allOfItOrNothing();
        howManyStatements();
        Check.close("StringEdgesTest");
    }

    private static int answerOf(String text) {
        return Check.tell(new Watched(), text);
    }

    private static void eachLetterInEachPlace() {
        Check.sentence("kind 1 the place of the first letter with which no STRING can go on");
        for (String ahead : new String[] {"", "u1;", "p01,1;g2;"}) {
            for (String[] row : MAY_COME) {
                String begun = ahead + row[0];
                for (int letter = 0; letter <= 255; letter++) {
                    boolean may = row[1].indexOf(letter) >= 0;
                    int got = answerOf(begun + (char) letter);
                    int here = -1000 - begun.length();
                    Check.due("'" + begun + "' and letter " + letter + ": FAULT at that letter", got == here ? 1 : 0,
                        may ? 0 : 1);
                }
            }
        }
    }

    private static void theEndIfSomethingLacks() {
        Check.sentence("the end, if something lacks");
        for (String ahead : new String[] {"", "u1;", "p01,1;g2;"}) {
            for (String[] row : MAY_COME) {
                if (!row[0].isEmpty()) {
                    String begun = ahead + row[0];
                    Check.due("'" + begun + "'", answerOf(begun), -1000 - begun.length());
                }
            }
        }
    }

    private static void atLeastOneStatement() {
        Check.sentence("At least one STATEMENT");
        Check.due("no letters", answerOf(""), -1000);
        Watched x = States.ofAllKinds();
        Check.due("one", x.string(), 1);
        Check.due("no letters any more", x.string(), -1000);
        Check.due("just \";\"", answerOf(";"), -1000);
        Check.due("\";\" behind a STATEMENT", answerOf("u1;;"), -1003);
    }

    private static void formGoesByFormAlone() {
        Check.sentence("kind 1 is told by the first wrong letter, whatever comes behind it");
        Check.due("a second wrong one", answerOf("u1x;y"), -1002);
        Check.due("a good STATEMENT behind it", answerOf("xu1;"), -1000);
        Check.due("the letter 0", answerOf("u1;" + (char) 0), -1003);
        Check.due("the letter 255", answerOf("u" + (char) 255), -1001);
        Check.due("a great letter", answerOf("G1;"), -1000);
        Check.due("a digit of another script", answerOf("g" + (char) 178), -1001);
        Check.due("the sign ahead of 0", answerOf("g/;"), -1001);
        Check.due("the sign behind 9", answerOf("g:;"), -1001);
    }

    private static void sixtyFourLetters() {
        Check.sentence("letters, one by one (64 at most)");
        String sixtyThree = "g1;".repeat(21);
        Check.due("63 letters", answerOf(sixtyThree), 21);
        String sixtyFour = "u1;" .repeat(20) + "u10;";
        Check.due("64 letters", answerOf(sixtyFour), 21);
        Check.due("64 letters, something lacks", answerOf(sixtyThree + "g"), -1064);
        Check.due("64 letters, the last is wrong", answerOf(sixtyThree + "x"), -1063);
        Check.due("64 letters, the last STATEMENT is wrong", answerOf("u1;".repeat(20) + "u00;"), -2060);
        Watched x = new Watched();
        Check.feed(x, sixtyFour);
        Check.due("one more", x.feed('g'), -6);
        Check.due("the 64 are as they were", x.string(), 21);
        Check.due("PUSH by the last", x.set(0, 1), 10);
    }

    private static void lettersAreNoMoreThen() {
        Check.sentence("The letters, which are no more then");
        for (String text : new String[] {"", "u1;", "u", "x", "u0;", "g1;".repeat(21) + "g"}) {
            Watched x = new Watched();
            Check.feed(x, text);
            Check.due("letters", x.count(7), text.length());
            x.string();
            Check.due("letters behind '" + text + "'", x.count(7), 0);
            Check.due("the next letter is the first", x.feed('u'), 1);
            x.feed('7');
            x.feed(';');
            Check.due("just the new ones are read", x.string(), 1);
            Check.due("PUSH", x.set(0, 1), 7);
        }
    }

    private static void kinds() {
        Check.sentence("\"p\" KIND (a digit): 0 .. 5");
        for (int kind = 0; kind <= 9; kind++) {
            Watched x = new Watched();
            Check.due("KIND " + kind, Check.tell(x, "p" + kind + "9,9;"), kind <= 5 ? 1 : -2000);
            Check.due("LAMPS", x.count(0), kind <= 5 ? 1 : 0);
            Check.due("KIND", x.lamp(0, 0), kind <= 5 ? kind : -1);
        }
    }

    private static void lives() {
        Check.sentence("LIFE (1 .. 99), 1 or 2 digits");
        String[] told = {"0", "00", "1", "01", "9", "09", "10", "98", "99"};
        int[] due = {-1, -1, 1, 1, 9, 9, 10, 98, 99};
        for (int k = 0; k < told.length; k++) {
            Watched x = new Watched();
            Check.due("LIFE " + told[k], Check.tell(x, "p0" + told[k] + ",1;"), due[k] < 0 ? -2000 : 1);
            Check.due("LIFE", x.lamp(0, 1), due[k]);
        }
        Check.due("no digit", answerOf("p0,1;"), -1002);
        Check.due("3 digits", answerOf("p0100,1;"), -1004);
    }

    private static void minutes() {
        Check.sentence("MINUTES (1 .. 9), a digit");
        for (int minutes = 0; minutes <= 9; minutes++) {
            Watched x = new Watched();
            Check.due("MINUTES " + minutes, Check.tell(x, "p01," + minutes + ";"), minutes == 0 ? -2000 : 1);
            Check.due("MINUTES", x.lamp(0, 2), minutes == 0 ? -1 : minutes);
        }
        Check.due("no digit", answerOf("p01,;"), -1004);
        Check.due("2 digits", answerOf("p01,10;"), -1005);
    }

    private static void pushes() {
        Check.sentence("\"u\" PUSH (1 to 3 digits): 1 .. 999");
        String[] told = {"0", "00", "000", "1", "01", "001", "9", "10", "99", "100", "998", "999"};
        int[] due = {0, 0, 0, 1, 1, 1, 9, 10, 99, 100, 998, 999};
        for (int k = 0; k < told.length; k++) {
            Watched x = new Watched();
            Check.due("PUSH " + told[k], Check.tell(x, "u" + told[k] + ";"), due[k] == 0 ? -2000 : 1);
            Check.due("PUSH", x.set(0, 1), due[k] == 0 ? 230 : due[k]);
        }
        Check.due("no digit", answerOf("u;"), -1001);
        Check.due("4 digits", answerOf("u1000;"), -1004);
    }

    private static void grips() {
        Check.sentence("\"g\" GRIP (a digit): 1 .. 9");
        for (int grip = 0; grip <= 9; grip++) {
            Watched x = new Watched();
            Check.due("GRIP " + grip, Check.tell(x, "g" + grip + ";"), grip == 0 ? -2000 : 1);
            Check.due("GRIP", x.set(3, 1), grip == 0 ? 3 : grip);
        }
        Check.due("no digit", answerOf("g;"), -1001);
        Check.due("2 digits", answerOf("g10;"), -1002);
    }

    private static void lampsThatAreThere() {
        Check.sentence("\"d\" a lamp (1 or 2 digits): what is not there");
        for (int lamps = 0; lamps <= 12; lamps += 3) {
            Watched x = Check.withMany(lamps, "p01,1;", "");
            for (int i = 0; i <= 14; i++) {
                Check.due("d" + i + " of " + lamps, Check.tell(x, "d" + i + ",1;"), i < lamps ? 1 : -2000);
                Check.due("OPEN ones", x.count(2), Math.min(i + 1, lamps));
            }
            Check.due("d99 of " + lamps, Check.tell(x, "d99,1;"), -2000);
            Check.due("d00 of " + lamps, Check.tell(x, "d00,2;"), lamps > 0 ? 1 : -2000);
            Check.due("BRIDGED ones", x.count(3), lamps > 0 ? 1 : 0);
        }
    }

    private static void howTheyAre() {
        Check.sentence("\"d\" a lamp, a digit: it is WELL, OPEN, BRIDGED, HANGING");
        for (int kind = 0; kind <= 5; kind++) {
            Watched x = Check.with("p" + kind + "9,1;p09,1;");
            for (int how = 0; how <= 9; how++) {
                Check.due("d1," + how, Check.tell(x, "d0," + how + ";"), how <= 3 ? 1 : -2000);
                Check.due("how it is", x.lamp(0, 4), Math.min(how, 3));
                Check.due("how the other is", x.lamp(1, 4), 0);
            }
        }
    }

    private static void noRoom() {
        Check.sentence("no room: a 13th LAMP");
        Check.due("12 by one and one", Check.tell(Check.withMany(11, "p01,1;", ""), "p01,1;"), 1);
        Check.due("13", Check.tell(Check.withMany(12, "p01,1;", ""), "p01,1;"), -2000);
        Watched x = Check.withMany(11, "p01,1;", "");
        Check.due("12 and 13 at once", Check.tell(x, "u7;p01,1;p01,1;"), -2009);
        Check.due("LAMPS, none of both came", x.count(0), 11);
        Check.due("PUSH as it was", x.set(0, 1), 230);
        Check.due("what is no lamp has room", Check.tell(Check.withMany(12, "p01,1;", ""), "u7;d11,1;g2;"), 3);
    }

    private static void placesOfKindTwo() {
        Check.sentence("kind 2 the place of the first letter of the first STATEMENT that is not as it must be");
        String[] wrong = {"p61,1;", "p00,1;", "p01,0;", "u0;", "d9,0;", "d0,4;", "g0;"};
        String[] ahead = {"", "u1;", "u123;", "p01,1;", "p012,1;d0,1;g2;"};
        for (String good : ahead) {
            for (String bad : wrong) {
                for (String behind : new String[] {"", "u2;", "u0;"}) {
                    String text = good + bad + behind;
                    Check.due("'" + text + "'", answerOf(text), -2000 - good.length());
                }
            }
        }
    }

    private static void theFirstOfSeveral() {
        Check.sentence("the first STATEMENT that is not as it must be");
        Check.due("two of one sort", answerOf("u1;g0;g0;"), -2003);
        Check.due("two of two sorts", answerOf("d0,1;u0;"), -2000);
        Check.due("three", answerOf("g1;u0;p99,0;d5,5;"), -2003);
    }

    private static void kindOneAheadOfKindTwo() {
        Check.sentence("kind 1; else kind 2");
        Check.due("kind 2 first in the letters", answerOf("u0;x"), -1003);
        Check.due("kind 2, then something lacks", answerOf("g0;u1"), -1005);
        Check.due("both in one STATEMENT", answerOf("p60,0"), -1005);
        Check.due("both in one STATEMENT", answerOf("d9,99;"), -1004);
    }

    private static void oneBehindTheOther() {
        Check.sentence("STATEMENTS, each by what those ahead of it leave");
        Check.due("a lamp that has just come", answerOf("p01,1;d0,1;"), 2);
        Check.due("a lamp that comes later", answerOf("d0,1;p01,1;"), -2000);
        Watched x = Check.with("p01,1;u5;u6;d0,1;d0,2;g4;g5;");
        Check.due("PUSH, the last", x.set(0, 1), 6);
        Check.due("how it is, the last", x.lamp(0, 4), 2);
        Check.due("GRIP, the last", x.set(3, 1), 5);
    }

    private static void allOfItOrNothing() {
        Check.sentence("Without FAULT all of it comes, with one nothing");
        String[] faults = {"x", "u", "u0;", "d9,1;"};
        for (String fault : faults) {
            Watched x = Check.with("p29,2;p19,3;u50;g5;");
            x.hour();
            String before = Check.stateOf(x);
            Check.due("FAULT", Check.tell(x, "p01,1;u9;g9;d0,1;" + fault) < 0 ? 1 : 0, 1);
            Check.same("all, behind '" + fault + "'", Check.stateOf(x), before);
        }
        Watched y = Check.with("p29,2;p19,3;u50;g5;");
        y.hour();
        Check.due("no FAULT", Check.tell(y, "p01,1;u9;g9;d0,1;"), 4);
        long[] got = {y.count(0), y.lamp(2, 1), y.lamp(0, 4), y.lamp(0, 3), y.set(0, 1), y.set(3, 1), y.count(5)};
        long[] due = {3, 1, 1, 2, 9, 9, 1};
        for (int k = 0; k < due.length; k++) {
            Check.due("what came, " + k, got[k], due[k]);
        }
    }

    private static void howManyStatements() {
        Check.sentence("string: how many STATEMENTS");
        for (int many = 1; many <= 21; many++) {
            Check.due("of 3 letters", answerOf("g1;".repeat(many)), many);
        }
        Check.due("of each sort", answerOf("g1;p01,1;u1;d0,0;"), 4);
    }
}
