/** A string of lamps in a row that share a push, as the document tells it. */
public final class OneLampAllOut {
    private static final int NOBODY = -1;
    private static final int OTHER = -2;
    private static final int STATE = -3;
    private static final int BELOW = -4;
    private static final int ROOM = -6;
    private static final int NONE = -9;
    private static final long LONG_REFUSAL = 4000000000000000000L;

    private static final int LAMP = 0;
    private static final int BRIDGER = 1;
    private static final int LOOSE = 2;
    private static final int RUSTED = 3;
    private static final int MELTING = 4;
    private static final int UNLIKE = 5;

    private static final int WELL = 0;
    private static final int OPEN = 1;
    private static final int BRIDGED = 2;
    private static final int HANGING = 3;

    private static final int PUSH = 0;
    private static final int SPARES = 1;
    private static final int LIMIT = 2;
    private static final int GRIP = 3;
    private static final int[] LEAST_SETTING = {1, 0, 1, 1};
    private static final int[] GREATEST_SETTING = {999, 99, 999, 9};

    private static final int MOST_LAMPS = 12;
    private static final int MOST_LIFE = 99;
    private static final int MOST_MINUTES = 9;
    private static final int MOST_HURT = 9999;
    private static final int MOST_FLOW = 9999;
    private static final int MOST_HOUR = 9999;
    private static final int LAMP_DRAG = 10;

    private static final int MOST_LETTERS = 64;
    private static final int GREATEST_LETTER = 255;
    private static final int END = -1;
    private static final int FAULT_OF_FORM = -1000;
    private static final int FAULT_OF_SENSE = -2000;

    private static final int BY_MEAN = 0;
    private static final int BY_WORST = 1;
    private static final int MOST_TOLD = 6;

    private static final int MIND_HOURS = 400;
    private static final int MOST_HOURS = 200;
    private static final int MOST_SEED_HOURS = 50;
    private static final int ANEW_GREATEST = 50;
    private static final int ANEW_HOURS = 60;
    private static final int MOST_LAMPS_OF_TWO = 8;

    private static final int KINDS_OF_REFUSALS = 6;
    private static final int FIRST_REFUSAL_COUNT = 11;

    private final Row row = new Row();
    private final Row kept = new Row();
    private final Mind mind = new Mind();
    private final Letters letters = new Letters();
    private final Statement statement = new Statement();
    private final Looks looks = new Looks();
    private final Search search = new Search();
    private final SwapOrder swaps = new SwapOrder();
    private final int[] refusals = new int[KINDS_OF_REFUSALS];
    private boolean hasImage;

    public OneLampAllOut() {
    }

    public int feed(int letter) {
        if (letter < 0) {
            return refuse(BELOW);
        }
        if (letter > GREATEST_LETTER || letters.size >= MOST_LETTERS) {
            return refuse(ROOM);
        }
        letters.add(letter);
        return letters.size;
    }

    public int string() {
        int answer = formOfLetters();
        if (answer >= 0) {
            Row tried = mind.startFrom(row);
            int fault = takeLetters(tried);
            if (fault < 0) {
                answer = fault;
            } else {
                row.copyFrom(tried);
            }
        }
        letters.size = 0;
        return answer;
    }

    public int lamp(int lamp, int what) {
        if (!row.has(lamp)) {
            return refuse(NOBODY);
        }
        Lamp one = row.lamps[lamp];
        switch (what) {
            case 0: return one.kind;
            case 1: return one.life;
            case 2: return one.minutes;
            case 3: return one.hurt;
            case 4: return one.condition;
            case 5: return one.drag();
            case 6: return one.brightAt(row.flowNow());
            case 7: return one.likely();
            default: return refuse(OTHER);
        }
    }

    public int set(int what, int v) {
        if (what < PUSH || what > GRIP) {
            return refuse(OTHER);
        }
        if (v < LEAST_SETTING[what]) {
            return refuse(BELOW);
        }
        if (v > GREATEST_SETTING[what]) {
            return refuse(ROOM);
        }
        int was = row.settings[what];
        row.settings[what] = v;
        return was;
    }

    public int flow() {
        return row.flowNow();
    }

    public int hour() {
        if (row.hours >= MOST_HOUR) {
            return refuse(ROOM);
        }
        return row.passHour();
    }

    public int swap(int lamp) {
        if (!row.has(lamp)) {
            return refuse(NOBODY);
        }
        if (row.settings[SPARES] <= 0) {
            return refuse(STATE);
        }
        row.settings[SPARES]--;
        row.lamps[lamp].putAnew();
        return asNumber(row.isLive());
    }

    public int meter(int i, int j) {
        if (!row.hasStretch(i, j)) {
            return refuse(NOBODY);
        }
        return asNumber(row.isWhole(i, j));
    }

    public int finder(int i) {
        if (!row.has(i)) {
            return refuse(NOBODY);
        }
        return asNumber(row.isWhole(0, i - 1));
    }

    public int touch(int lamp) {
        if (!row.has(lamp)) {
            return refuse(NOBODY);
        }
        row.touchAt(lamp);
        return row.lamps[lamp].condition;
    }

    public int find(int i, int j, int what) {
        if (!row.hasStretch(i, j)) {
            return refuse(NOBODY);
        }
        if (what != BY_MEAN && what != BY_WORST) {
            return refuse(OTHER);
        }
        return search.leastCost(row, i, j, what);
    }

    public int look(int i, int j, int what) {
        if (!row.hasStretch(i, j)) {
            return refuse(NOBODY);
        }
        if (what != BY_MEAN && what != BY_WORST) {
            return refuse(OTHER);
        }
        return search.bestPlace(row, i, j, what);
    }

    public int order(int k) {
        if (k < 0) {
            return refuse(BELOW);
        }
        if (!row.has(k)) {
            return NONE;
        }
        swaps.arrange(row);
        return swaps.places[k];
    }

    public int orderSum() {
        if (row.size == 0) {
            return refuse(STATE);
        }
        swaps.arrange(row);
        return swaps.cost(row);
    }

    public int told(int place, int answer) {
        if (!row.has(place)) {
            return refuse(NOBODY);
        }
        if (answer != 0 && answer != 1) {
            return refuse(OTHER);
        }
        if (looks.size >= MOST_TOLD) {
            return refuse(ROOM);
        }
        looks.add(place, answer);
        return looks.size;
    }

    public int openTo() {
        return looks.leftAfter(looks.size, row.size);
    }

    public int judge() {
        int answer = looks.firstThatLeavesNone(row.size);
        looks.size = 0;
        return answer;
    }

    public int lasts() {
        return mind.hoursTillDark(row);
    }

    public int next(int what) {
        if (what != 0 && what != 1) {
            return refuse(OTHER);
        }
        return mind.firstToGo(row, what == 0);
    }

    public int bridged(int n) {
        if (n < 0) {
            return refuse(BELOW);
        }
        if (n > MOST_LAMPS) {
            return refuse(ROOM);
        }
        return mind.hoursTillBridged(row, n);
    }

    public int stop() {
        if (row.size == 0) {
            return refuse(STATE);
        }
        return row.bridgedAboveLimit();
    }

    public int light(int n) {
        if (n < 0) {
            return refuse(BELOW);
        }
        if (n > MOST_HOURS) {
            return refuse(ROOM);
        }
        return mind.lightOf(row, n);
    }

    public int keeps(int n) {
        if (n < 1) {
            return refuse(BELOW);
        }
        if (n > MOST_HOURS) {
            return refuse(ROOM);
        }
        return mind.sparesTaken(row, n);
    }

    public int allAnew() {
        if (row.size == 0) {
            return refuse(STATE);
        }
        return mind.greatestAnew(row);
    }

    public int joined() {
        return row.stringsWithinLimit();
    }

    public long two(int part) {
        if (part != 0 && part != 1) {
            return LONG_REFUSAL - refuse(OTHER);
        }
        if (row.size == 0) {
            return LONG_REFUSAL - refuse(STATE);
        }
        if (row.size > MOST_LAMPS_OF_TWO) {
            return LONG_REFUSAL - refuse(ROOM);
        }
        return Chance.ofTwo(row, part == 0);
    }

    public int seeds(int n, int z) {
        if (n < 1) {
            return refuse(BELOW);
        }
        if (n > MOST_SEED_HOURS) {
            return refuse(ROOM);
        }
        if (row.size == 0) {
            return refuse(STATE);
        }
        return mind.wellAfterTouches(row, n, z);
    }

    public int image() {
        kept.copyFrom(row);
        hasImage = true;
        return row.hours;
    }

    public int restore() {
        if (!hasImage) {
            return refuse(STATE);
        }
        row.copyFrom(kept);
        return row.hours;
    }

    public int count(int what) {
        switch (what) {
            case 0: return row.size;
            case 1: return row.howMany(WELL);
            case 2: return row.howMany(OPEN);
            case 3: return row.howMany(BRIDGED);
            case 4: return row.howMany(HANGING);
            case 5: return row.hours;
            case 6: return asNumber(row.isLive());
            case 7: return letters.size;
            case 8: return looks.size;
            case 9: return row.allHurt();
            default: return refusalsOf(what);
        }
    }

    private int refusalsOf(int what) {
        if (what < FIRST_REFUSAL_COUNT || what >= FIRST_REFUSAL_COUNT + KINDS_OF_REFUSALS) {
            return NONE;
        }
        return refusals[what - FIRST_REFUSAL_COUNT];
    }

    private int refuse(int refusal) {
        int place = -1 - refusal;
        if (place >= 0 && place < KINDS_OF_REFUSALS) {
            refusals[place]++;
        }
        return refusal;
    }

    private static int asNumber(boolean told) {
        return told ? 1 : 0;
    }

    /** How many STATEMENTS the letters are, or the FAULT of kind 1. */
    private int formOfLetters() {
        int place = 0;
        int statements = 0;
        while (place < letters.size && statements < MOST_LETTERS) {
            statement.read(letters, place);
            place = statement.place;
            if (!statement.sound) {
                return FAULT_OF_FORM - place;
            }
            statements++;
        }
        return statements == 0 ? FAULT_OF_FORM : statements;
    }

    /** The letters, whose form is sound, come into a row: 0, or the FAULT of kind 2. */
    private int takeLetters(Row into) {
        int place = 0;
        for (int n = 0; n < MOST_LETTERS && place < letters.size; n++) {
            statement.read(letters, place);
            if (!into.take(statement)) {
                return FAULT_OF_SENSE - place;
            }
            place = statement.place;
        }
        return 0;
    }

    /** One lamp and the place that it hangs at. */
    private static final class Lamp {
        int kind;
        int life;
        int minutes;
        int hurt;
        int condition;

        void begin(int newKind, int newLife, int newMinutes) {
            kind = newKind;
            life = newLife;
            minutes = newMinutes;
            putAnew();
        }

        void copyFrom(Lamp other) {
            kind = other.kind;
            life = other.life;
            minutes = other.minutes;
            hurt = other.hurt;
            condition = other.condition;
        }

        // MINUTES belong to the place, so a good one that is put in keeps them.
        void putAnew() {
            hurt = 0;
            condition = WELL;
        }

        boolean isWell() {
            return condition == WELL;
        }

        boolean breaksRow() {
            return condition == OPEN || condition == HANGING;
        }

        boolean isLoose() {
            return kind == LOOSE || kind == RUSTED;
        }

        boolean isBridger() {
            return kind == BRIDGER || kind == UNLIKE;
        }

        int drag() {
            if (condition == BRIDGED) {
                return 0;
            }
            switch (kind) {
                case RUSTED: return LAMP_DRAG + 5;
                case MELTING: return LAMP_DRAG - 4;
                case UNLIKE: return 2 * LAMP_DRAG;
                default: return LAMP_DRAG;
            }
        }

        int brightAt(int flow) {
            return isWell() ? flow * drag() / 100 : 0;
        }

        int likely() {
            if (isBridger()) {
                return 1;
            }
            int weight = hurt / 10 + 1;
            return isLoose() ? weight + 3 : weight;
        }

        void burn(int flow) {
            hurt = Math.min(MOST_HURT, hurt + brightAt(flow) / 10);
            if (mustDie(flow)) {
                condition = whenDead();
            }
        }

        boolean mustDie(int flow) {
            switch (kind) {
                case MELTING: return flow > 5 * life;
                case UNLIKE: return hurt >= 20 * life;
                default: return hurt >= 10 * life;
            }
        }

        int whenDead() {
            if (isBridger()) {
                return BRIDGED;
            }
            return kind == RUSTED ? HANGING : OPEN;
        }

        boolean worksLoose(int hours, int grip) {
            switch (kind) {
                case LOOSE: return hours % 10 == grip;
                case RUSTED: return hours % 5 == grip % 5;
                default: return false;
            }
        }

        void touchWith(int grip) {
            if (condition == HANGING) {
                condition = WELL;
            } else if (isWell() && isLoose() && grip <= 3) {
                condition = HANGING;
            }
        }
    }

    /** All that an image holds: lamps from the plug on, settings, the hour. */
    private static final class Row {
        final Lamp[] lamps = new Lamp[MOST_LAMPS];
        final int[] settings = {230, 3, 100, 3};
        int size;
        int hours;

        Row() {
            for (int i = 0; i < MOST_LAMPS; i++) {
                lamps[i] = new Lamp();
            }
        }

        void copyFrom(Row other) {
            size = other.size;
            hours = other.hours;
            for (int what = PUSH; what <= GRIP; what++) {
                settings[what] = other.settings[what];
            }
            for (int i = 0; i < size; i++) {
                lamps[i].copyFrom(other.lamps[i]);
            }
        }

        boolean has(int i) {
            return i >= 0 && i < size;
        }

        boolean hasStretch(int i, int j) {
            return has(i) && has(j) && i <= j;
        }

        /** Takes a STATEMENT, or tells that it is not as it must be. */
        boolean take(Statement told) {
            switch (told.sign) {
                case 'p': return addLamp(told.first, told.second, told.third);
                case 'u': return takeSetting(PUSH, told.first);
                case 'd': return takeCondition(told.first, told.second);
                case 'g': return takeSetting(GRIP, told.first);
                default: return false;
            }
        }

        private boolean addLamp(int kind, int life, int minutes) {
            boolean inRange = kind >= LAMP && kind <= UNLIKE && life >= 1 && life <= MOST_LIFE
                    && minutes >= 1 && minutes <= MOST_MINUTES;
            if (!inRange || size >= MOST_LAMPS) {
                return false;
            }
            lamps[size].begin(kind, life, minutes);
            size++;
            return true;
        }

        private boolean takeSetting(int what, int v) {
            if (v < LEAST_SETTING[what] || v > GREATEST_SETTING[what]) {
                return false;
            }
            settings[what] = v;
            return true;
        }

        private boolean takeCondition(int i, int condition) {
            if (!has(i) || condition < WELL || condition > HANGING) {
                return false;
            }
            lamps[i].condition = condition;
            return true;
        }

        int howMany(int condition) {
            int many = 0;
            for (int i = 0; i < size; i++) {
                if (lamps[i].condition == condition) {
                    many++;
                }
            }
            return many;
        }

        int allHurt() {
            int sum = 0;
            for (int i = 0; i < size; i++) {
                sum += lamps[i].hurt;
            }
            return sum;
        }

        /** Whether none of the lamps from .. to is open or hanging; a stretch without lamps is whole. */
        boolean isWhole(int from, int to) {
            for (int i = from; i <= to && i < size; i++) {
                if (lamps[i].breaksRow()) {
                    return false;
                }
            }
            return true;
        }

        int allDrags() {
            int sum = 0;
            for (int i = 0; i < size; i++) {
                sum += lamps[i].drag();
            }
            return sum;
        }

        boolean isLive() {
            return isWhole(0, size - 1) && allDrags() > 0;
        }

        int flowNow() {
            return isLive() ? flowThrough(allDrags()) : 0;
        }

        int flowThrough(int drags) {
            return drags <= 0 ? 0 : Math.min(MOST_FLOW, 100 * settings[PUSH] / drags);
        }

        int allBright() {
            int flow = flowNow();
            int sum = 0;
            for (int i = 0; i < size; i++) {
                sum += lamps[i].brightAt(flow);
            }
            return sum;
        }

        /** An HOUR goes by: how many are no more WELL by it. */
        int passHour() {
            // A live row's flow may be cut to 0, so being live is asked for on its own.
            boolean live = isLive();
            int flow = live ? flowThrough(allDrags()) : 0;
            int gone = 0;
            for (int i = 0; i < size; i++) {
                Lamp one = lamps[i];
                boolean wasWell = one.isWell();
                if (wasWell && live) {
                    one.burn(flow);
                }
                if (one.isWell() && one.worksLoose(hours, settings[GRIP])) {
                    one.condition = HANGING;
                }
                if (wasWell && !one.isWell()) {
                    gone++;
                }
            }
            hours++;
            return gone;
        }

        void touchAt(int i) {
            if (has(i)) {
                lamps[i].touchWith(settings[GRIP]);
            }
        }

        void putAllAnew() {
            for (int i = 0; i < size; i++) {
                lamps[i].putAnew();
            }
        }

        /** Each one that is not WELL is put anew: how many. */
        int mendAll() {
            int mended = 0;
            for (int i = 0; i < size; i++) {
                if (!lamps[i].isWell()) {
                    lamps[i].putAnew();
                    mended++;
                }
            }
            return mended;
        }

        int bridgedAboveLimit() {
            for (int dead = 0; dead < size; dead++) {
                if (flowThrough(LAMP_DRAG * (size - dead)) > settings[LIMIT]) {
                    return dead;
                }
            }
            return NONE;
        }

        int stringsWithinLimit() {
            return isLive() ? settings[LIMIT] / Math.max(1, flowNow() / 10) : 0;
        }
    }

    /** The letters that have been fed. */
    private static final class Letters {
        final char[] signs = new char[MOST_LETTERS];
        int size;

        void add(int letter) {
            if (size < MOST_LETTERS) {
                signs[size] = (char) letter;
                size++;
            }
        }

        int signAt(int place) {
            return place >= 0 && place < size ? signs[place] : END;
        }
    }

    /** One STATEMENT as it is read; where it is not sound, place is that of the letter that does not fit. */
    private static final class Statement {
        int sign;
        int first;
        int second;
        int third;
        int place;
        boolean sound;

        void read(Letters letters, int from) {
            place = from;
            sound = true;
            sign = letters.signAt(from);
            switch (sign) {
                case 'p':
                    place++;
                    first = readNumber(letters, 1);
                    second = readNumber(letters, 2);
                    readSign(letters, ',');
                    third = readNumber(letters, 1);
                    break;
                case 'u':
                    place++;
                    first = readNumber(letters, 3);
                    break;
                case 'd':
                    place++;
                    first = readNumber(letters, 2);
                    readSign(letters, ',');
                    second = readNumber(letters, 1);
                    break;
                case 'g':
                    place++;
                    first = readNumber(letters, 1);
                    break;
                default:
                    sound = false;
                    break;
            }
            readSign(letters, ';');
        }

        private void readSign(Letters letters, char due) {
            if (!sound) {
                return;
            }
            if (letters.signAt(place) == due) {
                place++;
            } else {
                sound = false;
            }
        }

        private int readNumber(Letters letters, int mostDigits) {
            int number = 0;
            int digits = 0;
            while (sound && digits < mostDigits && isDigit(letters.signAt(place))) {
                number = 10 * number + letters.signAt(place) - '0';
                place++;
                digits++;
            }
            if (digits == 0) {
                sound = false;
            }
            return number;
        }

        private static boolean isDigit(int sign) {
            return sign >= '0' && sign <= '9';
        }
    }

    /** What FINDERS cost at least till just one lamp is left, for every stretch. */
    private static final class Search {
        private final int[][] least = new int[MOST_LAMPS][MOST_LAMPS];

        int leastCost(Row row, int from, int to, int by) {
            if (!row.hasStretch(from, to)) {
                return 0;
            }
            fill(row, from, to, by);
            return least[from][to];
        }

        int bestPlace(Row row, int from, int to, int by) {
            int due = leastCost(row, from, to, by);
            int weight = weightOf(row, from, to);
            for (int p = from + 1; p <= to; p++) {
                if (costOf(row, from, to, p, weight, by) == due) {
                    return p;
                }
            }
            return NONE;
        }

        // Short stretches come first, as the longer ones are made of them.
        private void fill(Row row, int from, int to, int by) {
            for (int i = from; i <= to; i++) {
                least[i][i] = 0;
            }
            for (int more = 1; more <= to - from; more++) {
                for (int i = from; i + more <= to; i++) {
                    least[i][i + more] = leastOf(row, i, i + more, by);
                }
            }
        }

        private int leastOf(Row row, int from, int to, int by) {
            int weight = weightOf(row, from, to);
            int best = costOf(row, from, to, from + 1, weight, by);
            for (int p = from + 2; p <= to; p++) {
                best = Math.min(best, costOf(row, from, to, p, weight, by));
            }
            return best;
        }

        private int costOf(Row row, int from, int to, int p, int weight, int by) {
            int minutes = row.lamps[p].minutes;
            int before = least[from][p - 1];
            int behind = least[p][to];
            if (by == BY_MEAN) {
                return minutes * weight + before + behind;
            }
            return minutes + Math.max(before, behind);
        }

        private static int weightOf(Row row, int from, int to) {
            int sum = 0;
            for (int i = from; i <= to; i++) {
                sum += row.lamps[i].likely();
            }
            return sum;
        }
    }

    /** The order of swapping that costs least. */
    private static final class SwapOrder {
        final int[] places = new int[MOST_LAMPS];

        // Least minutes by weight first is least in all; equal ones stay as they hang.
        void arrange(Row row) {
            for (int i = 0; i < row.size; i++) {
                int at = i;
                while (at > 0 && comesFirst(row.lamps[i], row.lamps[places[at - 1]])) {
                    places[at] = places[at - 1];
                    at--;
                }
                places[at] = i;
            }
        }

        private static boolean comesFirst(Lamp one, Lamp other) {
            return one.minutes * other.likely() < other.minutes * one.likely();
        }

        int cost(Row row) {
            int minutes = 0;
            int sum = 0;
            for (int k = 0; k < row.size; k++) {
                Lamp one = row.lamps[places[k]];
                minutes += one.minutes;
                sum += one.likely() * minutes;
            }
            return sum;
        }
    }

    /** The FINDERS that were told. */
    private static final class Looks {
        final int[] places = new int[MOST_TOLD];
        final int[] answers = new int[MOST_TOLD];
        int size;

        void add(int place, int answer) {
            if (size < MOST_TOLD) {
                places[size] = place;
                answers[size] = answer;
                size++;
            }
        }

        /** The lamps (bits) that the first so many looks leave open. */
        int leftAfter(int looks, int lamps) {
            int left = (1 << lamps) - 1;
            for (int k = 0; k < looks && k < size; k++) {
                int ahead = (1 << places[k]) - 1;
                left &= answers[k] == 1 ? ~ahead : ahead;
            }
            return left;
        }

        int firstThatLeavesNone(int lamps) {
            for (int k = 0; k < size; k++) {
                if (leftAfter(k + 1, lamps) == 0) {
                    return k;
                }
            }
            return NONE;
        }
    }

    /** What would come, tried on a row of its own. */
    private static final class Mind {
        private final Row tried = new Row();

        Row startFrom(Row real) {
            tried.copyFrom(real);
            return tried;
        }

        int hoursTillDark(Row real) {
            startFrom(real);
            for (int h = 0; h <= MIND_HOURS; h++) {
                if (!tried.isLive()) {
                    return h;
                }
                tried.passHour();
            }
            return NONE;
        }

        int firstToGo(Row real, boolean which) {
            startFrom(real);
            for (int h = 1; h <= MIND_HOURS; h++) {
                tried.passHour();
                int gone = firstGone(real);
                if (gone >= 0) {
                    return which ? gone : h;
                }
            }
            return NONE;
        }

        private int firstGone(Row real) {
            for (int i = 0; i < tried.size; i++) {
                if (real.lamps[i].isWell() && !tried.lamps[i].isWell()) {
                    return i;
                }
            }
            return NONE;
        }

        int hoursTillBridged(Row real, int n) {
            startFrom(real);
            for (int h = 0; h <= MIND_HOURS; h++) {
                if (tried.howMany(BRIDGED) >= n) {
                    return h;
                }
                tried.passHour();
            }
            return NONE;
        }

        int lightOf(Row real, int n) {
            startFrom(real);
            int sum = 0;
            for (int h = 0; h < n; h++) {
                sum += tried.allBright();
                tried.passHour();
            }
            return sum;
        }

        int sparesTaken(Row real, int n) {
            startFrom(real);
            int taken = 0;
            for (int h = 0; h < n; h++) {
                taken += tried.mendAll();
                tried.passHour();
            }
            return taken;
        }

        // Loose ones go by the clock, so a smaller h may fail where a greater one holds: each is tried.
        int greatestAnew(Row real) {
            for (int every = ANEW_GREATEST; every >= 1; every--) {
                startFrom(real);
                if (staysLive(every)) {
                    return every;
                }
            }
            return NONE;
        }

        private boolean staysLive(int every) {
            int tillAnew = 0;
            for (int h = 0; h < ANEW_HOURS; h++) {
                if (tillAnew == 0) {
                    tried.putAllAnew();
                    tillAnew = every;
                }
                if (!tried.isLive()) {
                    return false;
                }
                tried.passHour();
                tillAnew--;
            }
            return true;
        }

        int wellAfterTouches(Row real, int n, int seed) {
            startFrom(real);
            int z = seed;
            for (int h = 0; h < n; h++) {
                z = z * 1103515245 + 12345;
                tried.touchAt(drawBelow(z, tried.size));
                tried.passHour();
            }
            return tried.howMany(WELL);
        }

        private static int drawBelow(int z, int n) {
            return n <= 0 ? 0 : (z & 0x7fffffff) / 65536 % n;
        }
    }

    /** How likely more than one is dead. */
    private static final class Chance {
        /** Two or more, if at least one: what stands above or below the line, in least terms. */
        static long ofTwo(Row row, boolean above) {
            long all = 1;
            long none = 1;
            long justOne = 0;
            // More lamps than these would not fit a long.
            for (int i = 0; i < row.size && i < MOST_LAMPS_OF_TWO; i++) {
                long dead = Math.min(99, row.lamps[i].likely());
                all *= 100;
                justOne = justOne * (100 - dead) + none * dead;
                none *= 100 - dead;
            }
            long atLeastOne = all - none;
            long atLeastTwo = atLeastOne - justOne;
            long shared = greatestShared(atLeastOne, atLeastTwo);
            if (shared <= 0) {
                return 0;
            }
            return (above ? atLeastTwo : atLeastOne) / shared;
        }

        private static long greatestShared(long a, long b) {
            long greater = a;
            long smaller = b;
            for (int step = 0; step < 1000 && smaller != 0; step++) {
                long rest = greater % smaller;
                greater = smaller;
                smaller = rest;
            }
            return greater;
        }
    }
}
