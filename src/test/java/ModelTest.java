import java.util.ArrayDeque;
import java.util.Deque;
import java.util.Random;

/** Random runs of all calls, whose answers must be those of the model. */
final class ModelTest {
    private static final int RUNS = 900;
    // One step may make some twenty calls, and nothing is promised behind the 512th.
    private static final int CALLS = 512 - 25;
    private static final int[] ODD = {Integer.MIN_VALUE, Integer.MIN_VALUE + 1, -65536, -9, -2, -1, 13, 51, 64, 201,
        256, 1000, 65536, Integer.MAX_VALUE - 1, Integer.MAX_VALUE};

    private final Random random;
    private final Watched x = new Watched();
    private final Model model = new Model();
    private final Deque<Integer> waiting = new ArrayDeque<>();
    private final StringBuilder told = new StringBuilder();
    private final int mostLamps;
    private final int push;

    private ModelTest(long seed) {
        random = new Random(seed);
        mostLamps = 1 + random.nextInt(12);
        push = 1 + random.nextInt(random.nextBoolean() ? 999 : 60);
    }

    public static void main(String[] args) {
        for (int run = 0; run < RUNS; run++) {
            new ModelTest(run).run(run);
        }
        Check.close("ModelTest");
    }

    private void run(int run) {
        for (int n = 0; x.calls() < CALLS; n++) {
            if (waiting.isEmpty() && (n == 0 || random.nextInt(12) == 0)) {
                wait(n == 0 ? firstText() : text());
            }
            if (waiting.isEmpty()) {
                call(run, random.nextInt(31));
            } else {
                feedOrTell(run, waiting.removeFirst());
            }
        }
    }

    private void wait(String text) {
        for (int i = 0; i < text.length(); i++) {
            waiting.add((int) text.charAt(i));
        }
        waiting.add(-1);
    }

    private void feedOrTell(int run, int letter) {
        if (letter < 0) {
            Check.due("run " + run + ": string() of " + told, x.string(), model.string());
            told.setLength(0);
        } else {
            Check.due("run " + run + ": feed(" + letter + ")", x.feed(letter), model.feed(letter));
            told.append((char) letter);
        }
    }

    private String firstText() {
        StringBuilder text = new StringBuilder("u").append(push).append(';');
        for (int i = 0; i < Math.min(8, mostLamps); i++) {
            text.append(lampText());
        }
        return text.toString();
    }

    private String lampText() {
        int life = random.nextBoolean() ? random.nextInt(100) : 60 + random.nextInt(40);
        int kind = random.nextInt(40) == 0 ? 6 : random.nextInt(6);
        int minutes = random.nextInt(60) == 0 ? 0 : 1 + random.nextInt(9);
        return "p" + kind + Math.max(life, random.nextInt(20) == 0 ? 0 : 1) + "," + minutes + ";";
    }

    private String text() {
        StringBuilder text = new StringBuilder();
        int statements = random.nextInt(20) == 0 ? 0 : 1 + random.nextInt(4);
        for (int i = 0; i < statements; i++) {
            text.append(statementText());
        }
        int change = random.nextInt(8);
        if (change == 0 && text.length() > 0) {
            text.deleteCharAt(random.nextInt(text.length()));
        } else if (change == 1 && text.length() > 0) {
            text.setCharAt(random.nextInt(text.length()), "pudg,;0123x ".charAt(random.nextInt(12)));
        } else if (change == 2) {
            text.insert(random.nextInt(text.length() + 1), "pudg,;0123x ".charAt(random.nextInt(12)));
        }
        return text.length() > 64 ? text.substring(0, 64) : text.toString();
    }

    private String statementText() {
        int which = random.nextInt(10);
        if (which < 2 && model.count(0) < mostLamps) {
            return lampText();
        }
        if (which < 3) {
            return "u" + (random.nextInt(10) == 0 ? random.nextInt(1100) : push) + ";";
        }
        if (which < 4) {
            return "g" + random.nextInt(10) + ";";
        }
        return "d" + random.nextInt(Math.max(1, model.count(0) + random.nextInt(12) / 11)) + ","
            + random.nextInt(random.nextInt(10) == 0 ? 5 : 3 - random.nextInt(3)) + ";";
    }

    private int below(int n) {
        return random.nextInt(25) == 0 ? ODD[random.nextInt(ODD.length)] : random.nextInt(n);
    }

    private int someLamp() {
        return below(model.count(0) + (random.nextInt(8) == 0 ? 2 : 0) + (model.count(0) == 0 ? 1 : 0));
    }

    private void call(int run, int which) {
        int a = someLamp();
        int b = someLamp();
        String name = "run " + run + ": ";
        switch (which) {
            case 0: Check.due(name + "lamp(" + a + ", ..)", lampOf(a), 0); break;
            case 1: settings(name); break;
            case 2: Check.due(name + "flow()", x.flow(), model.flow()); break;
            case 3: case 4: case 5: Check.due(name + "hour()", x.hour(), model.hour()); break;
            case 6: Check.due(name + "swap(" + a + ")", x.swap(a), model.swap(a)); break;
            case 7: Check.due(name + "meter(" + a + ", " + b + ")", x.meter(a, b), model.meter(a, b)); break;
            case 8: Check.due(name + "finder(" + a + ")", x.finder(a), model.finder(a)); break;
            case 9: Check.due(name + "touch(" + a + ")", x.touch(a), model.touch(a)); break;
            case 10: case 11: searches(name, a, b); break;
            case 12: Check.due(name + "order(" + a + ")", x.order(a), model.order(a)); break;
            case 13: Check.due(name + "orderSum()", x.orderSum(), model.orderSum()); break;
            case 14: case 15: case 16: looks(name, a); break;
            default: callMind(name, which); break;
        }
    }

    private int lampOf(int lamp) {
        int what = below(9);
        return x.lamp(lamp, what) - model.lamp(lamp, what);
    }

    private void settings(String name) {
        int what = below(5);
        int v = random.nextInt(6) == 0 ? below(1100) : what == 0 ? push : what == 3 ? below(11) : below(120);
        Check.due(name + "set(" + what + ", " + v + ")", x.set(what, v), model.set(what, v));
    }

    private void searches(String name, int a, int b) {
        int i = random.nextInt(10) == 0 ? a : Math.min(a, b);
        int j = random.nextInt(10) == 0 ? b : Math.max(a, b);
        int what = below(2);
        String of = "(" + i + ", " + j + ", " + what + ")";
        Check.due(name + "find" + of, x.find(i, j, what), model.find(i, j, what));
        Check.due(name + "look" + of, x.look(i, j, what), model.look(i, j, what));
    }

    private void looks(String name, int a) {
        int answer = below(2);
        Check.due(name + "told(" + a + ", " + answer + ")", x.told(a, answer), model.told(a, answer));
        Check.due(name + "openTo()", x.openTo(), model.openTo());
        if (random.nextInt(5) == 0) {
            Check.due(name + "judge()", x.judge(), model.judge());
        }
    }

    private void callMind(String name, int which) {
        int n = below(210);
        int few = below(14);
        switch (which) {
            case 17: Check.due(name + "lasts()", x.lasts(), model.lasts()); break;
            case 18: Check.due(name + "next(" + few % 3 + ")", x.next(few % 3), model.next(few % 3)); break;
            case 19: Check.due(name + "bridged(" + few + ")", x.bridged(few), model.bridged(few)); break;
            case 20: Check.due(name + "stop()", x.stop(), model.stop()); break;
            case 21: Check.due(name + "light(" + n + ")", x.light(n), model.light(n)); break;
            case 22: Check.due(name + "keeps(" + n + ")", x.keeps(n), model.keeps(n)); break;
            case 23: Check.due(name + "allAnew()", x.allAnew(), model.allAnew()); break;
            case 24: Check.due(name + "joined()", x.joined(), model.joined()); break;
            case 25: case 26: Check.due(name + "two(" + few % 3 + ")", x.two(few % 3), model.two(few % 3)); break;
            case 27: seeds(name); break;
            case 28: images(name); break;
            default: counts(name); break;
        }
    }

    private void seeds(String name) {
        int n = below(52);
        int z = random.nextBoolean() ? random.nextInt() : below(9);
        Check.due(name + "seeds(" + n + ", " + z + ")", x.seeds(n, z), model.seeds(n, z));
    }

    private void images(String name) {
        if (random.nextInt(3) == 0) {
            Check.due(name + "restore()", x.restore(), model.restore());
        } else {
            Check.due(name + "image()", x.image(), model.image());
        }
    }

    private void counts(String name) {
        for (int what = -1; what <= 18; what++) {
            Check.due(name + "count(" + what + ")", x.count(what), model.count(what));
        }
        int odd = ODD[random.nextInt(ODD.length)];
        Check.due(name + "count(" + odd + ")", x.count(odd), model.count(odd));
    }
}
