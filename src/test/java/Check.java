import java.util.function.LongSupplier;
import java.util.function.Supplier;
import java.util.function.ToLongFunction;

/** Compares answers with what is due, and ends a test. */
final class Check {
    private static final long LONG_REFUSAL = 4000000000000000000L;
    private static final int[] LEAST_SETTING = {1, 0, 1, 1};

    private static int checks = 0;
    private static int wrong = 0;
    private static String sentence = "";

    private Check() {
    }

    /** The words of the document that the checks from here on hold. */
    static void sentence(String words) {
        sentence = "\"" + words + "\": ";
    }

    static void due(String call, long got, long want) {
        checks++;
        if (got != want) {
            report(call + " answered " + got + ", due is " + want);
        }
    }

    static void same(String what, String got, String want) {
        checks++;
        if (!got.equals(want)) {
            report(what + " is " + got + ", due is " + want);
        }
    }

    private static void report(String fault) {
        wrong++;
        if (wrong <= 50) {
            System.out.println(sentence + fault);
        }
    }

    /** Feeds a text letter by letter, and tells it as a STRING. */
    static int tell(Watched x, String text) {
        feed(x, text);
        return x.string();
    }

    /** Feeds a text to an object without letters. */
    static void feed(Watched x, String text) {
        for (int i = 0; i < text.length(); i++) {
            due("feed '" + text.charAt(i) + "' of " + text, x.feed(text.charAt(i)), i + 1);
        }
    }

    /** A new object with a STRING that has no FAULT. */
    static Watched with(String text) {
        Watched x = new Watched();
        int statements = text.length() - text.replace(";", "").length();
        due("string of " + text, tell(x, text), statements);
        return x;
    }

    /** A new object with so many equal lamps, which need more letters than there may be at once. */
    static Watched withMany(int lamps, String lamp, String behind) {
        Watched x = new Watched();
        for (int i = 0; i < lamps; i += 8) {
            tell(x, lamp.repeat(Math.min(8, lamps - i)));
        }
        due("LAMPS", x.count(0), lamps);
        if (!behind.isEmpty()) {
            due("string of " + behind, tell(x, behind) > 0 ? 1 : 0, 1);
        }
        return x;
    }

    /** All that count and lamp tell but REFUSALS, as one text. */
    private static String countsAndLamps(Watched x) {
        StringBuilder all = new StringBuilder();
        for (int what = 0; what <= 9; what++) {
            all.append(x.count(what)).append(' ');
        }
        int lamps = x.count(0);
        for (int i = 0; i < lamps; i++) {
            all.append('|');
            for (int what = 0; what <= 7; what++) {
                all.append(x.lamp(i, what)).append(' ');
            }
        }
        return all.append(" o").append(x.openTo()).toString();
    }

    /** What the four SETTINGS were; they are at their least then. */
    private static String takenSettings(Watched x) {
        StringBuilder all = new StringBuilder();
        for (int what = 0; what < 4; what++) {
            all.append(" s").append(x.set(what, LEAST_SETTING[what]));
        }
        return all.toString();
    }

    /** All that count and lamp and set tell but REFUSALS, as one text. */
    static String stateOf(Watched x) {
        StringBuilder all = new StringBuilder(countsAndLamps(x));
        for (int what = 0; what < 4; what++) {
            int was = x.set(what, LEAST_SETTING[what]);
            x.set(what, was);
            all.append(" s").append(was);
        }
        return all.toString();
    }

    /** All that there is but REFUSALS: also what the letters, the told looks, the image hold. It is used up by this. */
    static String everythingOf(Watched x) {
        StringBuilder all = new StringBuilder(countsAndLamps(x)).append(takenSettings(x));
        all.append(" judged ").append(x.judge());
        all.append(" told ").append(x.string()).append(takenSettings(x)).append(' ').append(x.count(0));
        all.append(" image ").append(x.restore()).append(countsAndLamps(x)).append(takenSettings(x));
        return all.toString();
    }

    private static int[] refusalsOf(Watched x) {
        int[] counts = new int[6];
        for (int k = 0; k < 6; k++) {
            counts[k] = x.count(11 + k);
        }
        return counts;
    }

    private static void refusalsAre(String call, Watched x, int[] before, int refusal) {
        for (int k = 0; k < 6; k++) {
            int more = k == -refusal - 1 ? 1 : 0;
            due(call + ": REFUSALS " + (-1 - k), x.count(11 + k), before[k] + more);
        }
    }

    /** A refused call: the answer, and one refusal of its kind more. */
    static void refused(Watched x, String call, LongSupplier act, int refusal) {
        int[] before = refusalsOf(x);
        due(call, act.getAsLong(), refusal);
        refusalsAre(call, x, before, refusal);
    }

    /** A refused call: the answer, one refusal of its kind more, and all else as in a twin without the call. */
    static void refused(Supplier<Watched> made, String call, ToLongFunction<Watched> act, int refusal) {
        refused(made, call, act, refusal, refusal);
    }

    static void refusedLong(Supplier<Watched> made, String call, ToLongFunction<Watched> act, int refusal) {
        refused(made, call, act, LONG_REFUSAL - refusal, refusal);
    }

    /** A call that is not refused and changes nothing: the answer, no refusal more, and all as in a twin. */
    static void answers(Supplier<Watched> made, String call, ToLongFunction<Watched> act, long answer) {
        refused(made, call, act, answer, 0);
    }

    private static void refused(Supplier<Watched> made, String call, ToLongFunction<Watched> act, long answer,
            int refusal) {
        Watched x = made.get();
        int[] before = refusalsOf(x);
        due(call, act.applyAsLong(x), answer);
        refusalsAre(call, x, before, refusal);
        same(call + ": all else", everythingOf(x), everythingOf(made.get()));
    }

    /** A call that is not refused and may change much: the answer, and no refusal more. */
    static void taken(Supplier<Watched> made, String call, ToLongFunction<Watched> act, long answer) {
        Watched x = made.get();
        int[] before = refusalsOf(x);
        due(call, act.applyAsLong(x), answer);
        refusalsAre(call, x, before, 0);
    }

    static void close(String test) {
        System.out.println(test + ": " + checks + " answers, " + wrong + " not as due");
        if (wrong != 0) {
            System.exit(1);
        }
    }
}
