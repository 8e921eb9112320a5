import java.math.BigInteger;
import java.util.ArrayList;
import java.util.HashMap;
import java.util.List;
import java.util.Map;
import java.util.regex.Matcher;
import java.util.regex.Pattern;

/**
 * The document once more, by other ways than the class under test: kinds are classes under one another, strings are
 * read by a pattern, orders are found over all sets, chances over all sets, searches by plain recursion.
 */
final class Model {
    private static final Pattern STRING =
        Pattern.compile("(?:p\\d\\d{1,2},\\d;|u\\d{1,3};|d\\d{1,2},\\d;|g\\d;)+");

    private State now = new State();
    private State image;
    private final StringBuilder letters = new StringBuilder();
    private final List<int[]> looks = new ArrayList<>();
    private final Map<Integer, Integer> refusals = new HashMap<>();

    private static class Lamp {
        int kind;
        int life;
        int minutes;
        int hurt;
        char how = 'W';

        int drag() {
            return how == 'B' ? 0 : ownDrag();
        }

        int ownDrag() {
            return 10;
        }

        boolean dies(int flow) {
            return hurt >= 10 * life;
        }

        char dead() {
            return 'O';
        }

        boolean hangs(int hour, int grip) {
            return false;
        }

        boolean touchy() {
            return false;
        }

        int likely() {
            return hurt / 10 + 1;
        }
    }

    private static class Bridger extends Lamp {
        @Override
        char dead() {
            return 'B';
        }

        @Override
        int likely() {
            return 1;
        }
    }

    private static class Loose extends Lamp {
        @Override
        boolean hangs(int hour, int grip) {
            return hour % 10 == grip;
        }

        @Override
        boolean touchy() {
            return true;
        }

        @Override
        int likely() {
            return super.likely() + 3;
        }
    }

    private static final class Rusted extends Loose {
        @Override
        int ownDrag() {
            return super.ownDrag() + 5;
        }

        @Override
        char dead() {
            return 'H';
        }

        @Override
        boolean hangs(int hour, int grip) {
            return hour % 5 == grip % 5;
        }
    }

    private static final class Melting extends Lamp {
        @Override
        int ownDrag() {
            return super.ownDrag() - 4;
        }

        @Override
        boolean dies(int flow) {
            return flow > 5 * life;
        }
    }

    private static final class Unlike extends Bridger {
        @Override
        int ownDrag() {
            return 2 * super.ownDrag();
        }

        @Override
        boolean dies(int flow) {
            return hurt >= 20 * life;
        }
    }

    private static Lamp newLamp(int kind, int life, int minutes) {
        Lamp lamp = kind == 0 ? new Lamp() : kind == 1 ? new Bridger() : kind == 2 ? new Loose()
            : kind == 3 ? new Rusted() : kind == 4 ? new Melting() : new Unlike();
        lamp.kind = kind;
        lamp.life = life;
        lamp.minutes = minutes;
        return lamp;
    }

    private static final class State {
        final List<Lamp> lamps = new ArrayList<>();
        int push = 230;
        int spares = 3;
        int limit = 100;
        int grip = 3;
        int hour = 0;

        State copy() {
            State other = new State();
            for (Lamp lamp : lamps) {
                Lamp twin = newLamp(lamp.kind, lamp.life, lamp.minutes);
                twin.hurt = lamp.hurt;
                twin.how = lamp.how;
                other.lamps.add(twin);
            }
            other.push = push;
            other.spares = spares;
            other.limit = limit;
            other.grip = grip;
            other.hour = hour;
            return other;
        }

        String all() {
            StringBuilder how = new StringBuilder();
            for (Lamp lamp : lamps) {
                how.append(lamp.how);
            }
            return how.toString();
        }

        int drags() {
            return lamps.stream().mapToInt(Lamp::drag).sum();
        }

        boolean live() {
            return !lamps.isEmpty() && !all().matches(".*[OH].*") && drags() > 0;
        }

        int flow() {
            return live() ? Math.min(9999, 100 * push / drags()) : 0;
        }

        int bright(Lamp lamp) {
            return lamp.how == 'W' ? flow() * lamp.drag() / 100 : 0;
        }

        int wells() {
            return all().replaceAll("[^W]", "").length();
        }

        int pass() {
            int before = wells();
            if (live()) {
                int flow = flow();
                int[] brights = lamps.stream().mapToInt(this::bright).toArray();
                for (int i = 0; i < brights.length; i++) {
                    if (lamps.get(i).how == 'W') {
                        lamps.get(i).hurt = Math.min(9999, lamps.get(i).hurt + brights[i] / 10);
                    }
                }
                for (Lamp lamp : lamps) {
                    if (lamp.how == 'W' && lamp.dies(flow)) {
                        lamp.how = lamp.dead();
                    }
                }
            }
            for (Lamp lamp : lamps) {
                if (lamp.how == 'W' && lamp.hangs(hour, grip)) {
                    lamp.how = 'H';
                }
            }
            hour++;
            return before - wells();
        }

        void anew(int i) {
            Lamp old = lamps.get(i);
            lamps.set(i, newLamp(old.kind, old.life, old.minutes));
        }

        void touch(int i) {
            Lamp lamp = lamps.get(i);
            if (lamp.how == 'H') {
                lamp.how = 'W';
            } else if (lamp.how == 'W' && lamp.touchy() && !(grip > 3)) {
                lamp.how = 'H';
            }
        }
    }

    private int refuse(int refusal) {
        refusals.merge(refusal, 1, Integer::sum);
        return refusal;
    }

    private boolean nobody(int lamp) {
        return lamp < 0 || lamp >= now.lamps.size();
    }

    private boolean nobody(int i, int j) {
        return nobody(i) || nobody(j) || i > j;
    }

    int feed(int letter) {
        if (letter < 0) {
            return refuse(-4);
        }
        if (letter > 255 || letters.length() == 64) {
            return refuse(-6);
        }
        return letters.append((char) letter).length();
    }

    int string() {
        String text = letters.toString();
        letters.setLength(0);
        for (int i = 0; i < text.length(); i++) {
            Matcher head = STRING.matcher(text.substring(0, i + 1));
            if (!head.matches() && !head.hitEnd()) {
                return -1000 - i;
            }
        }
        if (!STRING.matcher(text).matches()) {
            return -1000 - text.length();
        }
        State then = now.copy();
        int place = 0;
        int statements = 0;
        for (String one : text.split(";")) {
            if (!take(then, one)) {
                return -2000 - place;
            }
            place += one.length() + 1;
            statements++;
        }
        now = then;
        return statements;
    }

    private static boolean take(State then, String one) {
        String[] parts = one.substring(1).split(",");
        int number = Integer.parseInt(parts[0]);
        switch (one.charAt(0)) {
            case 'p': {
                int kind = parts[0].charAt(0) - '0';
                int life = Integer.parseInt(parts[0].substring(1));
                int minutes = Integer.parseInt(parts[1]);
                if (kind > 5 || life == 0 || minutes == 0 || then.lamps.size() == 12) {
                    return false;
                }
                then.lamps.add(newLamp(kind, life, minutes));
                return true;
            }
            case 'u':
                then.push = number;
                return number != 0;
            case 'g':
                then.grip = number;
                return number != 0;
            default: {
                int how = Integer.parseInt(parts[1]);
                if (number >= then.lamps.size() || how > 3) {
                    return false;
                }
                then.lamps.get(number).how = "WOBH".charAt(how);
                return true;
            }
        }
    }

    int lamp(int lamp, int what) {
        if (nobody(lamp)) {
            return refuse(-1);
        }
        Lamp one = now.lamps.get(lamp);
        if (what < 0 || what > 7) {
            return refuse(-2);
        }
        return new int[] {one.kind, one.life, one.minutes, one.hurt, "WOBH".indexOf(one.how), one.drag(),
            now.bright(one), one.likely()}[what];
    }

    int set(int what, int v) {
        if (what < 0 || what > 3) {
            return refuse(-2);
        }
        if (v < (what == 1 ? 0 : 1)) {
            return refuse(-4);
        }
        if (v > (what == 1 ? 99 : what == 3 ? 9 : 999)) {
            return refuse(-6);
        }
        int was = new int[] {now.push, now.spares, now.limit, now.grip}[what];
        if (what == 0) {
            now.push = v;
        } else if (what == 1) {
            now.spares = v;
        } else if (what == 2) {
            now.limit = v;
        } else {
            now.grip = v;
        }
        return was;
    }

    int flow() {
        return now.flow();
    }

    int hour() {
        return now.hour == 9999 ? refuse(-6) : now.pass();
    }

    int swap(int lamp) {
        if (nobody(lamp)) {
            return refuse(-1);
        }
        if (now.spares == 0) {
            return refuse(-3);
        }
        now.spares--;
        now.anew(lamp);
        return now.live() ? 1 : 0;
    }

    int meter(int i, int j) {
        return nobody(i, j) ? refuse(-1) : now.all().substring(i, j + 1).matches("[WB]*") ? 1 : 0;
    }

    int finder(int i) {
        return nobody(i) ? refuse(-1) : now.all().substring(0, i).matches("[WB]*") ? 1 : 0;
    }

    int touch(int lamp) {
        if (nobody(lamp)) {
            return refuse(-1);
        }
        now.touch(lamp);
        return "WOBH".indexOf(now.lamps.get(lamp).how);
    }

    private final Map<Integer, Integer> costs = new HashMap<>();

    private int cost(int i, int j, int what) {
        if (i == j) {
            return 0;
        }
        Integer known = costs.get(i * 100 + j);
        if (known != null) {
            return known;
        }
        int best = Integer.MAX_VALUE;
        for (int p = i + 1; p <= j; p++) {
            best = Math.min(best, costAt(i, j, p, what));
        }
        costs.put(i * 100 + j, best);
        return best;
    }

    private int costAt(int i, int j, int p, int what) {
        int minutes = now.lamps.get(p).minutes;
        int before = cost(i, p - 1, what);
        int behind = cost(p, j, what);
        if (what == 1) {
            return Math.max(minutes + before, minutes + behind);
        }
        int sum = before + behind;
        for (Lamp lamp : now.lamps.subList(i, j + 1)) {
            sum += lamp.likely() * minutes;
        }
        return sum;
    }

    int find(int i, int j, int what) {
        if (nobody(i, j)) {
            return refuse(-1);
        }
        if (what != 0 && what != 1) {
            return refuse(-2);
        }
        costs.clear();
        return cost(i, j, what);
    }

    int look(int i, int j, int what) {
        if (nobody(i, j)) {
            return refuse(-1);
        }
        if (what != 0 && what != 1) {
            return refuse(-2);
        }
        costs.clear();
        int answer = -9;
        for (int p = j; p > i; p--) {
            if (costAt(i, j, p, what) == cost(i, j, what)) {
                answer = p;
            }
        }
        return answer;
    }

    /** The least cost of the lamps that are not yet in the set, which were swapped already. */
    private int[] leastOfSets() {
        int n = now.lamps.size();
        int[] least = new int[1 << n];
        for (int set = (1 << n) - 2; set >= 0; set--) {
            least[set] = Integer.MAX_VALUE;
            for (int i = 0; i < n; i++) {
                if ((set >> i & 1) == 0) {
                    least[set] = Math.min(least[set], stepCost(set, i) + least[set | 1 << i]);
                }
            }
        }
        return least;
    }

    private int stepCost(int set, int next) {
        int minutes = now.lamps.get(next).minutes;
        for (int i = 0; i < now.lamps.size(); i++) {
            if ((set >> i & 1) == 1) {
                minutes += now.lamps.get(i).minutes;
            }
        }
        return minutes * now.lamps.get(next).likely();
    }

    int order(int k) {
        if (k < 0) {
            return refuse(-4);
        }
        if (k >= now.lamps.size()) {
            return -9;
        }
        int[] least = leastOfSets();
        int set = 0;
        for (int step = 0; true; step++) {
            int next = 0;
            while ((set >> next & 1) == 1 || stepCost(set, next) + least[set | 1 << next] != least[set]) {
                next++;
            }
            if (step == k) {
                return next;
            }
            set |= 1 << next;
        }
    }

    int orderSum() {
        return now.lamps.isEmpty() ? refuse(-3) : leastOfSets()[0];
    }

    int told(int place, int answer) {
        if (nobody(place)) {
            return refuse(-1);
        }
        if (answer != 0 && answer != 1) {
            return refuse(-2);
        }
        if (looks.size() == 6) {
            return refuse(-6);
        }
        looks.add(new int[] {place, answer});
        return looks.size();
    }

    private int openTo(List<int[]> told) {
        int bits = 0;
        for (int dead = 0; dead < now.lamps.size(); dead++) {
            boolean may = true;
            for (int[] look : told) {
                int wouldTell = dead < look[0] ? 0 : 1;
                may &= wouldTell == look[1];
            }
            bits += may ? 1 << dead : 0;
        }
        return bits;
    }

    int openTo() {
        return openTo(looks);
    }

    int judge() {
        int answer = -9;
        for (int k = looks.size(); k >= 1; k--) {
            if (openTo(looks.subList(0, k)) == 0) {
                answer = k - 1;
            }
        }
        looks.clear();
        return answer;
    }

    int lasts() {
        State then = now.copy();
        int hours = 0;
        while (then.live() && hours <= 400) {
            then.pass();
            hours++;
        }
        return hours > 400 ? -9 : hours;
    }

    int next(int what) {
        if (what != 0 && what != 1) {
            return refuse(-2);
        }
        State then = now.copy();
        for (int hours = 1; hours <= 400; hours++) {
            then.pass();
            for (int i = 0; i < now.lamps.size(); i++) {
                if (now.all().charAt(i) == 'W' && then.all().charAt(i) != 'W') {
                    return what == 0 ? i : hours;
                }
            }
        }
        return -9;
    }

    int bridged(int n) {
        if (n < 0) {
            return refuse(-4);
        }
        if (n > 12) {
            return refuse(-6);
        }
        State then = now.copy();
        for (int hours = 0; hours <= 400; hours++) {
            if (then.all().replaceAll("[^B]", "").length() >= n) {
                return hours;
            }
            then.pass();
        }
        return -9;
    }

    int stop() {
        if (now.lamps.isEmpty()) {
            return refuse(-3);
        }
        State then = new State();
        then.push = now.push;
        for (int i = 0; i < now.lamps.size(); i++) {
            then.lamps.add(newLamp(0, 1, 1));
        }
        for (int i = 0; i < now.lamps.size(); i++) {
            if (then.flow() > now.limit) {
                return i;
            }
            then.lamps.get(i).how = 'B';
        }
        return -9;
    }

    int light(int n) {
        if (n < 0) {
            return refuse(-4);
        }
        if (n > 200) {
            return refuse(-6);
        }
        State then = now.copy();
        int sum = 0;
        for (int h = 0; h < n; h++) {
            sum += then.lamps.stream().mapToInt(then::bright).sum();
            then.pass();
        }
        return sum;
    }

    int keeps(int n) {
        if (n < 1) {
            return refuse(-4);
        }
        if (n > 200) {
            return refuse(-6);
        }
        State then = now.copy();
        int taken = 0;
        for (int h = 0; h < n; h++) {
            for (int i = 0; i < then.lamps.size(); i++) {
                if (then.lamps.get(i).how != 'W') {
                    then.anew(i);
                    taken++;
                }
            }
            then.pass();
        }
        return taken;
    }

    int allAnew() {
        if (now.lamps.isEmpty()) {
            return refuse(-3);
        }
        int answer = -9;
        for (int every = 1; every <= 50; every++) {
            State then = now.copy();
            boolean good = true;
            for (int h = 0; h < 60 && good; h++) {
                for (int i = 0; i < then.lamps.size() && h % every == 0; i++) {
                    then.anew(i);
                }
                good = then.live();
                then.pass();
            }
            answer = good ? every : answer;
        }
        return answer;
    }

    int joined() {
        return now.live() ? now.limit / Math.max(1, now.flow() / 10) : 0;
    }

    long two(int part) {
        if (part != 0 && part != 1) {
            return 4000000000000000000L - refuse(-2);
        }
        int n = now.lamps.size();
        if (n == 0) {
            return 4000000000000000000L - refuse(-3);
        }
        if (n > 8) {
            return 4000000000000000000L - refuse(-6);
        }
        BigInteger one = BigInteger.ZERO;
        BigInteger more = BigInteger.ZERO;
        for (int set = 1; set < 1 << n; set++) {
            BigInteger chance = BigInteger.ONE;
            for (int i = 0; i < n; i++) {
                int dead = Math.min(99, now.lamps.get(i).likely());
                chance = chance.multiply(BigInteger.valueOf((set >> i & 1) == 1 ? dead : 100 - dead));
            }
            if (Integer.bitCount(set) == 1) {
                one = one.add(chance);
            } else {
                more = more.add(chance);
            }
        }
        BigInteger below = one.add(more);
        BigInteger shared = below.gcd(more);
        return (part == 0 ? more : below).divide(shared).longValueExact();
    }

    int seeds(int n, int z) {
        if (n < 1) {
            return refuse(-4);
        }
        if (n > 50) {
            return refuse(-6);
        }
        if (now.lamps.isEmpty()) {
            return refuse(-3);
        }
        State then = now.copy();
        BigInteger seed = BigInteger.valueOf(z);
        for (int h = 0; h < n; h++) {
            seed = seed.multiply(BigInteger.valueOf(1103515245)).add(BigInteger.valueOf(12345));
            int draw = seed.mod(BigInteger.ONE.shiftLeft(31)).shiftRight(16).intValueExact();
            then.touch(draw % then.lamps.size());
            then.pass();
        }
        return then.wells();
    }

    int image() {
        image = now.copy();
        return now.hour;
    }

    int restore() {
        if (image == null) {
            return refuse(-3);
        }
        now = image.copy();
        return now.hour;
    }

    int count(int what) {
        if (what >= 11 && what <= 16) {
            return refusals.getOrDefault(10 - what, 0);
        }
        if (what >= 1 && what <= 4) {
            return now.all().replaceAll("[^" + "WOBH".charAt(what - 1) + "]", "").length();
        }
        switch (what) {
            case 0: return now.lamps.size();
            case 5: return now.hour;
            case 6: return now.live() ? 1 : 0;
            case 7: return letters.length();
            case 8: return looks.size();
            case 9: return now.lamps.stream().mapToInt(lamp -> lamp.hurt).sum();
            default: return -9;
        }
    }
}
