/** Compares answers with what is due, and ends a test. */
final class Check {
    private static int checks = 0;
    private static int wrong = 0;

    private Check() {
    }

    static void due(String call, long got, long want) {
        checks++;
        if (got != want) {
            wrong++;
            if (wrong <= 50) {
                System.out.println(call + " answered " + got + ", due is " + want);
            }
        }
    }

    /** Feeds a text letter by letter, and tells it as a STRING. */
    static int tell(OneLampAllOut x, String text) {
        for (int i = 0; i < text.length(); i++) {
            due("feed '" + text.charAt(i) + "' of " + text, x.feed(text.charAt(i)), i + 1);
        }
        return x.string();
    }

    /** A new object with a STRING that has no FAULT. */
    static OneLampAllOut with(String text) {
        OneLampAllOut x = new OneLampAllOut();
        int statements = text.length() - text.replace(";", "").length();
        due("string of " + text, tell(x, text), statements);
        return x;
    }

    /** All that count and lamp and set tell but REFUSALS, as one text. */
    static String stateOf(OneLampAllOut x) {
        StringBuilder all = new StringBuilder();
        for (int what = 0; what <= 9; what++) {
            all.append(x.count(what)).append(' ');
        }
        for (int i = 0; i < x.count(0); i++) {
            all.append('|');
            for (int what = 0; what <= 7; what++) {
                all.append(x.lamp(i, what)).append(' ');
            }
        }
        int[] least = {1, 0, 1, 1};
        for (int what = 0; what < 4; what++) {
            int was = x.set(what, least[what]);
            x.set(what, was);
            all.append('s').append(was);
        }
        return all.append(" o").append(x.openTo()).toString();
    }

    /** A refused call: the answer, one refusal of its kind more, all else as it was. */
    static void refused(OneLampAllOut x, String call, java.util.function.LongSupplier act, int refusal) {
        String before = stateOf(x);
        int[] counts = new int[6];
        for (int k = 0; k < 6; k++) {
            counts[k] = x.count(11 + k);
        }
        due(call, act.getAsLong(), refusal);
        for (int k = 0; k < 6; k++) {
            int more = k == -refusal - 1 ? 1 : 0;
            due(call + ": refusals of " + (-1 - k), x.count(11 + k), counts[k] + more);
        }
        same(call + ": state", stateOf(x), before);
    }

    static void same(String what, String got, String want) {
        checks++;
        if (!got.equals(want)) {
            wrong++;
            System.out.println(what + " is " + got + ", due is " + want);
        }
    }

    static void close(String test) {
        System.out.println(test + ": " + checks + " answers, " + wrong + " not as due");
        if (wrong != 0) {
            System.exit(1);
        }
    }
}
