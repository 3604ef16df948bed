import java.util.NoSuchElementException;

/** A scullery of piles of plates; ../shared/DOC.md says what each call promises. */
public final class PlatePiles {
    public static final int NONE = -1;

    private static final int NOTHING = -2;
    private static final int TAPE_MOST = 700;
    private static final int MAIDS_MOST = 4;
    private static final int PILES_MOST = 4;
    private static final int HIGHEST = 5;
    private static final int PLATES_MOST = PILES_MOST * HIGHEST;
    private static final int TURNS_MOST = 14;
    private static final int KNOTS_MOST = 64;
    private static final int OPEN_MOST = 8;
    private static final int SEEN_MOST = 24;
    private static final int UNDO_MOST = 20;
    private static final int GO_MOST = 200;
    private static final int LAST_MINUTE = 9000;
    private static final int LAST_TURN_MINUTE = 99;
    private static final int RIGHT_WHEN_MOST = 199;
    private static final int SEEN_MINUTES_MOST = 60;
    private static final int FEWEST_MOST = 20;
    private static final int TIMES_MOST = 9;
    private static final int HOLDS_MOST = 6;
    private static final int DRAWS = 10;

    private static final int CANT_STAND = 1;
    private static final int TOO_MUCH = 2;
    private static final int TOLD_ALREADY = 3;
    private static final int NOT_TOLD = 4;

    private static final int EFFORT_LAW = 0;
    private static final int CRACK_LAW = 1;
    private static final int HEED_LAW = 2;
    private static final int LAWS = 3;

    private static final int TRY_HEEDLESS = 0;
    private static final int TRY_DEEPER = 1;
    private static final int TRY_IDLER = 2;
    private static final int TRY_TWICE = 3;
    private static final int TRY_ALL = 4;

    private static final int TURNED_BY_CALL = 0;
    private static final int MOVED_BY_CALL = 1;
    private static final int CHIPPED_BY_CALL = 2;

    // Kinds of tokens; from MAID to MINUTE they are numbered as in Tokens.WORDS.
    private static final int END = 0;
    private static final int NO_TOKEN = 1;
    private static final int NUMBER = 2;
    private static final int NAME = 3;
    private static final int MAID = 10;
    private static final int PILE = 11;
    private static final int PLATE = 12;
    private static final int TURN = 13;
    private static final int CHIP = 14;
    private static final int SEED = 15;
    private static final int LAW = 16;
    private static final int EFFORT = 17;
    private static final int HEED = 19;
    private static final int OR = 20;
    private static final int AND = 21;
    private static final int NOT = 22;
    private static final int SIZE = 23;
    private static final int DEPTH = 24;
    private static final int HIGH = 25;
    private static final int SKILL = 26;
    private static final int TIRED = 27;
    private static final int GAPS = 28;
    private static final int MINUTE = 29;
    private static final int LESS = 30;
    private static final int AT_MOST = 31;
    private static final int EQUAL = 32;
    private static final int UNLIKE = 33;
    private static final int AT_LEAST = 34;
    private static final int MORE = 35;
    private static final int PLUS = 36;
    private static final int MINUS = 37;
    private static final int TIMES = 38;
    private static final int BY = 39;
    private static final int OPEN = 40;
    private static final int CLOSE = 41;
    private static final int SEMICOLON = 42;

    private static final int[] FACTORIAL = {1, 1, 2, 6, 24, 120};
    private static final int[] POWER_OF_FIVE = {1, 5, 25, 125, 625};

    private final byte[] tape = new byte[TAPE_MOST];
    private int taped = 0;
    private int latestFault = 0;
    private int latestPlace = NONE;
    private final Reader reader = new Reader();
    private Told told = new Told();
    private Told spare = new Told();
    private final World now = new World();
    private final World trial = new World();
    private final World image = new World();
    private boolean imaged = false;
    private final Laws laws = new Laws();
    private final Minutes minutes = new Minutes();
    private final Doings doings = new Doings();
    private final SeenLog seen = new SeenLog();
    private final Chart[] charts = new Chart[2 * (HIGHEST + 1)];
    private Turning turning = null;
    private final int[] row = new int[HIGHEST];
    private final int[] answers = new int[HIGHEST * HIGHEST];
    private final int[] costs = new int[PILES_MOST];

    public PlatePiles() {
    }

    public int feed(int a, int b, int c, int d, int e) {
        if (taped + 20 > TAPE_MOST) {
            return NONE;
        }
        putOnTape(a);
        putOnTape(b);
        putOnTape(c);
        putOnTape(d);
        putOnTape(e);
        return taped;
    }

    private void putOnTape(int four) {
        for (int shift = 24; shift >= 0 && taped < TAPE_MOST; shift -= 8) {
            tape[taped] = (byte) (four >> shift);
            taped++;
        }
    }

    public int text(int n) {
        if (n < 0 || n > taped) {
            return NOTHING;
        }
        taped = 0;
        // Read into the spare one, so that with a fault all stays.
        latestFault = reader.read(tape, n, spare);
        latestPlace = latestFault == 0 ? NONE : reader.place();
        if (latestFault != 0) {
            return NONE;
        }
        Told old = told;
        told = spare;
        spare = old;
        now.copy(told.start);
        imaged = false;
        doings.forget();
        seen.forget();
        return told.lines;
    }

    public int fault(int what) {
        if (what == 0) {
            return latestFault;
        }
        return what == 1 ? latestPlace : NONE;
    }

    public int named(int what, int letters) {
        if (what == 0) {
            return indexOf(told.maidNames, now.maids, letters);
        }
        return what == 1 ? indexOf(told.pileNames, now.piles, letters) : NONE;
    }

    public int pile(int pile, int what) throws IndexOutOfBoundsException, NoSuchElementException {
        if (!now.hasPile(pile)) {
            throw new IndexOutOfBoundsException("no such pile");
        }
        switch (what) {
            case 0:
                return now.high[pile];
            case 1:
                return now.isRight(pile) ? 1 : 0;
            case 2:
                return now.isProper(pile) ? 1 : 0;
            case 3:
                return now.gaps(pile);
            case 4:
                return now.turned[pile];
            default:
                throw new NoSuchElementException("no such what");
        }
    }

    public int plate(int pile, int place, int what) {
        if (!now.hasPile(pile) || place < 0 || place >= HIGHEST || what < 0 || what > 3) {
            return NONE;
        }
        int plate = now.plateAt(pile, place);
        if (plate < 0) {
            return NOTHING;
        }
        switch (what) {
            case 0:
                return plate;
            case 1:
                return now.size[plate];
            case 2:
                return now.face[plate];
            default:
                return now.chipped[plate];
        }
    }

    public int maid(int maid, int what) {
        if (!now.hasMaid(maid) || what < 0 || what > 1) {
            return NONE;
        }
        return what == 0 ? told.skill[maid] : now.tired[maid];
    }

    public long law(int what, int maid, int pile, int depth) {
        if (what < 0 || what >= LAWS || !now.hasMaid(maid) || !now.hasPile(pile) || depth < 1 || depth > HIGHEST) {
            return Long.MIN_VALUE;
        }
        laws.lookAt(told, now, maid, pile, depth);
        return laws.value(what, Long.MIN_VALUE);
    }

    public int turn(int pile, int depth) {
        if (!now.hasPile(pile) || depth < 1 || depth > now.high[pile]) {
            return NONE;
        }
        now.turnOver(pile, depth);
        doings.note(TURNED_BY_CALL, pile, depth);
        return now.gaps(pile);
    }

    public int move(int from, int to) {
        if (!now.hasPile(from) || !now.hasPile(to) || from == to) {
            return NONE;
        }
        if (now.high[from] == 0 || now.high[to] >= HIGHEST || now.hasSize(to, now.sizeAt(from, 0))) {
            return NOTHING;
        }
        now.lift(from, to);
        doings.note(MOVED_BY_CALL, from, to);
        return now.high[to];
    }

    public boolean crack(int pile, int place) {
        int plate = now.plateAt(pile, place);
        if (plate < 0 || now.chipped[plate] != 0) {
            return false;
        }
        now.chipped[plate] = 1;
        doings.note(CHIPPED_BY_CALL, plate, 0);
        return true;
    }

    public int go(int n) {
        if (n < 0 || n > GO_MOST || now.minute + n > LAST_MINUTE) {
            return NONE;
        }
        if (n > 0) {
            doings.forget();
        }
        minutes.begin(told, now);
        minutes.byNumbers();
        minutes.passAll(n);
        return now.minute;
    }

    public int ahead(int n, int what, int i) {
        boolean such = n >= 0 && n <= GO_MOST && what >= 0 && what <= 5;
        if (!such || what == 2 && !now.hasMaid(i) || what == 5 && !now.hasPile(i)) {
            return NONE;
        }
        trial.copy(now);
        minutes.begin(told, trial);
        minutes.passAll(n);
        switch (what) {
            case 0:
                return trial.rightPiles();
            case 1:
                return trial.properPiles();
            case 2:
                return trial.tired[i];
            case 3:
                return trial.chippedPlates();
            case 4:
                return trial.idle - now.idle;
            default:
                return trial.gaps(i);
        }
    }

    public int rightWhen(int pile) {
        if (!now.hasPile(pile)) {
            return NONE;
        }
        trial.copy(now);
        minutes.begin(told, trial);
        for (int gone = 0; gone <= RIGHT_WHEN_MOST; gone++) {
            if (trial.isRight(pile)) {
                return gone;
            }
            minutes.pass();
        }
        return NOTHING;
    }

    public int fewest(int pile, int which) {
        if (!now.hasPile(pile) || which < 0 || which > 1) {
            return NONE;
        }
        return chartOf(now.high[pile], which).leastOf(now.state(pile, which));
    }

    // A chart serves all texts, so it is made once, when it is first asked for.
    private Chart chartOf(int high, int which) {
        if (turning == null) {
            turning = new Turning();
        }
        int at = which * (HIGHEST + 1) + high;
        if (charts[at] == null) {
            charts[at] = new Chart(turning, high, which);
            charts[at].measure();
        }
        return charts[at];
    }

    public int first(int pile, int which) {
        if (!now.hasPile(pile) || which < 0 || which > 1) {
            return NONE;
        }
        return chartOf(now.high[pile], which).nearing(now.state(pile, which));
    }

    public int ways(int pile, int which) {
        if (!now.hasPile(pile) || which < 0 || which > 1) {
            return NONE;
        }
        return chartOf(now.high[pile], which).rowsOf(now.state(pile, which));
    }

    public int apart(int one, int other, int which) {
        if (!now.hasPile(one) || !now.hasPile(other) || which < 0 || which > 1) {
            return NONE;
        }
        if (now.high[one] != now.high[other]) {
            return NOTHING;
        }
        return chartOf(now.high[one], which).leastOf(stateAgainst(one, other, which));
    }

    // If each plate is called by the place where the other pile has its like, the other pile is right and proper.
    private int stateAgainst(int one, int other, int which) {
        int high = now.high[one];
        int faces = 0;
        for (int place = 0; place < high; place++) {
            row[place] = now.placeOfRank(other, now.rankAt(one, place));
            if (now.faceAt(one, place) != now.faceAt(other, row[place])) {
                faces |= 1 << place;
            }
        }
        int order = orderOf(row, high);
        return which == 0 ? order : order << high | faces;
    }

    public int furthest(int plates, int which) {
        if (plates < 0 || plates > HIGHEST || which < 0 || which > 1) {
            return NONE;
        }
        return chartOf(plates, which).furthestLeast();
    }

    public int howMany(int plates, int which, int fewest) {
        if (plates < 0 || plates > HIGHEST || which < 0 || which > 1 || fewest < 0 || fewest > FEWEST_MOST) {
            return NONE;
        }
        return chartOf(plates, which).statesAt(fewest);
    }

    public int could(int pile, int which, int times) {
        if (!now.hasPile(pile) || which < 0 || which > 1 || times < 0 || times > TIMES_MOST) {
            return NONE;
        }
        return chartOf(now.high[pile], which).reachedBy(times);
    }

    public int greedy(int pile) {
        if (!now.hasPile(pile)) {
            return NONE;
        }
        int turns = 0;
        for (int place = 0; place < now.high[pile]; place++) {
            row[place] = now.sizeAt(pile, place);
        }
        for (int left = now.high[pile]; left > 1; left--) {
            int greatest = placeOfGreatest(row, left);
            if (greatest == left - 1) {
                continue;
            }
            if (greatest > 0) {
                reverse(row, greatest + 1);
                turns++;
            }
            reverse(row, left);
            turns++;
        }
        return turns;
    }

    public int game(int pile, int which, int what) {
        if (!now.hasPile(pile) || which < 0 || which > 1 || what < 0 || what > 1) {
            return NONE;
        }
        Chart chart = chartOf(now.high[pile], which);
        int state = now.state(pile, which);
        return what == 0 ? chart.winner(state) : chart.opening(state);
    }

    public int match(int what) {
        if (what < 0 || what > 5) {
            return NONE;
        }
        priceThePiles();
        int best = bestChoice();
        int count = 0;
        int sum = 0;
        for (int maid = 0; maid < now.maids; maid++) {
            int pile = chosen(best, maid);
            if (pile < now.piles) {
                count++;
                sum += costs[pile];
            }
            if (what == maid) {
                return pile < now.piles ? pile : NOTHING;
            }
        }
        if (what < MAIDS_MOST) {
            return NOTHING;
        }
        return what == 4 ? count : sum;
    }

    private void priceThePiles() {
        for (int pile = 0; pile < now.piles; pile++) {
            costs[pile] = chartOf(now.high[pile], 1).leastOf(now.state(pile, 1));
        }
    }

    // Choices are counted up with the first maid's digit highest and none as the last digit: the first best one stays.
    private int bestChoice() {
        int choices = POWER_OF_FIVE[now.maids];
        int best = choices - 1;
        int bestWorth = 0;
        for (int choice = 0; choice < choices; choice++) {
            int worth = worthOf(choice);
            if (worth > bestWorth) {
                bestWorth = worth;
                best = choice;
            }
        }
        return best;
    }

    // One more matched outweighs every sum of costs; 0 is for what is not allowed, and for nobody matched.
    private int worthOf(int choice) {
        int taken = 0;
        int worth = 0;
        for (int maid = 0; maid < now.maids; maid++) {
            int pile = chosen(choice, maid);
            if (pile == PILES_MOST) {
                continue;
            }
            boolean free = pile < now.piles && (taken >> pile & 1) == 0;
            if (!free || costs[pile] == 0 || costs[pile] > told.skill[maid]) {
                return 0;
            }
            taken |= 1 << pile;
            worth += 1000 - costs[pile];
        }
        return worth;
    }

    private int chosen(int choice, int maid) {
        return choice / POWER_OF_FIVE[now.maids - 1 - maid] % 5;
    }

    public long holds(int n, int what) {
        if (n < 0 || n > HOLDS_MOST || what < 0 || what > 1) {
            return NONE;
        }
        int whole = 100 - told.chip;
        int common = commonDivisor(whole, 100);
        long part = what == 0 ? whole / common : 100 / common;
        long product = 1;
        for (int i = 0; i < n; i++) {
            product *= part;
        }
        return product;
    }

    public int see(int minutes, int pile, int size, boolean is) {
        if (minutes < 1 || minutes > SEEN_MINUTES_MOST || !now.hasPile(pile) || size < 1 || size > 99) {
            return NONE;
        }
        return seen.addSight(minutes, pile, size, is);
    }

    public int strike(int seen) {
        return this.seen.addStrike(seen);
    }

    public boolean known(int n) {
        return seen.knowBy(n);
    }

    public int deep(int turn) {
        return turn < 0 || turn >= told.turns ? NONE : depthsLeft(turn);
    }

    private int depthsLeft(int turn) {
        seen.weigh();
        int longest = seen.longest();
        int bits = 0;
        for (int depth = 1; depth <= HIGHEST; depth++) {
            beginByDepth(turn, depth);
            boolean so = true;
            for (int gone = 1; gone <= longest && so; gone++) {
                minutes.pass();
                so = seen.agrees(trial, gone);
            }
            if (so) {
                bits |= 1 << depth - 1;
            }
        }
        return bits;
    }

    private void beginByDepth(int turn, int depth) {
        trial.copy(told.start);
        minutes.begin(told, trial);
        minutes.turnBy(turn, depth);
    }

    public int ask(int turn, int n, int what) {
        if (turn < 0 || turn >= told.turns || n < 1 || n > SEEN_MINUTES_MOST || what < 0 || what > 1) {
            return NONE;
        }
        int bits = depthsLeft(turn);
        int count = 0;
        for (int depth = 1; depth <= HIGHEST; depth++) {
            if ((bits >> depth - 1 & 1) != 0) {
                beginByDepth(turn, depth);
                minutes.passAll(n);
                noteAnswers(told.turnPile[turn], count);
                count++;
            }
        }
        int place = bestPlace(count);
        return what == 0 ? place : mostAlike(place, count);
    }

    private void noteAnswers(int pile, int at) {
        for (int place = 0; place < HIGHEST; place++) {
            answers[place * HIGHEST + at] = trial.sizeAt(pile, place);
        }
    }

    private int bestPlace(int count) {
        int best = 0;
        for (int place = 1; place < HIGHEST; place++) {
            if (mostAlike(place, count) < mostAlike(best, count)) {
                best = place;
            }
        }
        return best;
    }

    private int mostAlike(int place, int count) {
        int most = 0;
        for (int i = 0; i < count; i++) {
            int alike = 0;
            for (int j = 0; j < count; j++) {
                if (answers[place * HIGHEST + j] == answers[place * HIGHEST + i]) {
                    alike++;
                }
            }
            most = Math.max(most, alike);
        }
        return most;
    }

    public int chance(int seed, int n, int chipped) {
        if (seed < 0 || n < 1 || n > LAST_TURN_MINUTE || chipped < 0 || chipped > PLATES_MOST) {
            return NONE;
        }
        int times = 0;
        long number = seed;
        for (int draw = 0; draw < DRAWS; draw++) {
            trial.copy(now);
            trial.number = number;
            minutes.begin(told, trial);
            minutes.byNumbers();
            minutes.passAll(n);
            number = trial.number;
            if (trial.chippedPlates() >= chipped) {
                times++;
            }
        }
        return times;
    }

    public int tried(int what, int i, int n) {
        boolean such = what >= 0 && what <= TRY_ALL && n >= 0 && n <= GO_MOST;
        if (!such || what == TRY_IDLER && !now.hasMaid(i) || what != TRY_IDLER && i != 0) {
            return NONE;
        }
        trial.copy(now);
        minutes.begin(told, trial);
        minutes.tryOtherwise(what, i);
        minutes.passAll(n);
        return trial.gapsOfAll();
    }

    public int undo() {
        if (!doings.takeLatest()) {
            return NONE;
        }
        switch (doings.kind()) {
            case TURNED_BY_CALL:
                now.turnBack(doings.one(), doings.other());
                break;
            case MOVED_BY_CALL:
                now.lift(doings.other(), doings.one());
                break;
            default:
                now.mend(doings.one());
                break;
        }
        return doings.left();
    }

    public int keep() {
        image.copy(now);
        imaged = true;
        return now.minute;
    }

    public int back() {
        if (!imaged) {
            return NONE;
        }
        now.copy(image);
        doings.forget();
        return now.minute;
    }

    public int count(int what) {
        switch (what) {
            case 0:
                return now.maids;
            case 1:
                return now.piles;
            case 2:
                return now.plates;
            case 3:
                return told.turns;
            case 4:
                return told.knotCount;
            case 5:
                return now.minute;
            case 6:
                return now.rightPiles();
            case 7:
                return now.properPiles();
            case 8:
                return now.gapsOfAll();
            case 9:
                return now.chippedPlates();
            case 10:
                return now.idle;
            case 11:
                return now.tiredOfAll();
            case 12:
                return now.facesDown();
            case 13:
                return seen.total();
            case 14:
                return seen.knownBy();
            case 15:
                return doings.left();
            default:
                return NONE;
        }
    }

    private static int indexOf(int[] names, int count, int name) {
        for (int i = 0; i < count && i < names.length; i++) {
            if (names[i] == name) {
                return i;
            }
        }
        return NONE;
    }

    private static int placeOfGreatest(int[] row, int high) {
        int greatest = 0;
        for (int place = 1; place < high; place++) {
            if (row[place] > row[greatest]) {
                greatest = place;
            }
        }
        return greatest;
    }

    private static void reverse(int[] row, int depth) {
        for (int i = 0, j = depth - 1; i < j; i++, j--) {
            int kept = row[i];
            row[i] = row[j];
            row[j] = kept;
        }
    }

    // An order's number: for each place how many greater ones lie above it, in mixed base. It is 0 for what is right,
    // and below the factorial of high, whatever the highest pile may be: so one table of turns serves all piles.
    private static int orderOf(int[] row, int high) {
        int order = 0;
        for (int place = 1; place < high; place++) {
            int greater = 0;
            for (int above = 0; above < place; above++) {
                if (row[above] > row[place]) {
                    greater++;
                }
            }
            order += greater * FACTORIAL[place];
        }
        return order;
    }

    private static int commonDivisor(int one, int other) {
        for (int divisor = Math.min(one, other); divisor > 1; divisor--) {
            if (one % divisor == 0 && other % divisor == 0) {
                return divisor;
            }
        }
        return one == 0 ? other : 1;
    }

    /** The scullery as it lies at some time: all that an image keeps. */
    static final class World {
        int maids;
        int piles;
        int plates;
        int minute;
        int idle;
        long number;
        final int[] high = new int[PILES_MOST];
        final int[] turned = new int[PILES_MOST];
        final int[] tired = new int[MAIDS_MOST];
        final int[] lying = new int[PLATES_MOST];
        final int[] size = new int[PLATES_MOST];
        final int[] face = new int[PLATES_MOST];
        final int[] chipped = new int[PLATES_MOST];
        private final int[] row = new int[HIGHEST];

        void clear() {
            maids = 0;
            piles = 0;
            plates = 0;
            minute = 0;
            idle = 0;
            number = 0;
        }

        void copy(World other) {
            maids = other.maids;
            piles = other.piles;
            plates = other.plates;
            minute = other.minute;
            idle = other.idle;
            number = other.number;
            System.arraycopy(other.high, 0, high, 0, PILES_MOST);
            System.arraycopy(other.turned, 0, turned, 0, PILES_MOST);
            System.arraycopy(other.tired, 0, tired, 0, MAIDS_MOST);
            System.arraycopy(other.lying, 0, lying, 0, PLATES_MOST);
            System.arraycopy(other.size, 0, size, 0, PLATES_MOST);
            System.arraycopy(other.face, 0, face, 0, PLATES_MOST);
            System.arraycopy(other.chipped, 0, chipped, 0, PLATES_MOST);
        }

        void addMaid() {
            if (maids < MAIDS_MOST) {
                tired[maids] = 0;
                maids++;
            }
        }

        void addPile() {
            if (piles < PILES_MOST) {
                high[piles] = 0;
                turned[piles] = 0;
                piles++;
            }
        }

        void addPlate(int pile, int plateSize, int plateFace) {
            if (hasPile(pile) && high[pile] < HIGHEST && plates < PLATES_MOST) {
                lying[pile * HIGHEST + high[pile]] = plates;
                size[plates] = plateSize;
                face[plates] = plateFace;
                chipped[plates] = 0;
                high[pile]++;
                plates++;
            }
        }

        boolean hasMaid(int maid) {
            return maid >= 0 && maid < maids;
        }

        boolean hasPile(int pile) {
            return pile >= 0 && pile < piles;
        }

        int plateAt(int pile, int place) {
            if (pile < 0 || pile >= piles || place < 0 || place >= high[pile]) {
                return NONE;
            }
            return lying[pile * HIGHEST + place];
        }

        int sizeAt(int pile, int place) {
            int plate = plateAt(pile, place);
            return plate < 0 ? 0 : size[plate];
        }

        int faceAt(int pile, int place) {
            int plate = plateAt(pile, place);
            return plate < 0 ? 0 : face[plate];
        }

        boolean hasSize(int pile, int wanted) {
            for (int place = 0; place < high[pile]; place++) {
                if (sizeAt(pile, place) == wanted) {
                    return true;
                }
            }
            return false;
        }

        int rankAt(int pile, int place) {
            int less = 0;
            for (int other = 0; other < high[pile]; other++) {
                if (sizeAt(pile, other) < sizeAt(pile, place)) {
                    less++;
                }
            }
            return less;
        }

        int placeOfRank(int pile, int rank) {
            for (int place = 0; place < high[pile]; place++) {
                if (rankAt(pile, place) == rank) {
                    return place;
                }
            }
            return 0;
        }

        /** The order's number and, if faces count too, the faces as its lowest bits. */
        int state(int pile, int which) {
            int faces = 0;
            for (int place = 0; place < high[pile]; place++) {
                row[place] = sizeAt(pile, place);
                faces |= faceAt(pile, place) << place;
            }
            int order = orderOf(row, high[pile]);
            return which == 0 ? order : order << high[pile] | faces;
        }

        boolean isRight(int pile) {
            for (int place = 1; place < high[pile]; place++) {
                if (sizeAt(pile, place - 1) >= sizeAt(pile, place)) {
                    return false;
                }
            }
            return true;
        }

        boolean isProper(int pile) {
            for (int place = 0; place < high[pile]; place++) {
                if (faceAt(pile, place) != 0) {
                    return false;
                }
            }
            return isRight(pile);
        }

        int gaps(int pile) {
            int gaps = 0;
            int top = pile * HIGHEST;
            for (int place = 0; place < high[pile]; place++) {
                int own = size[lying[top + place]];
                int next = NONE;
                int nextSize = 0;
                for (int other = 0; other < high[pile]; other++) {
                    int otherSize = size[lying[top + other]];
                    if (otherSize > own && (next == NONE || otherSize < nextSize)) {
                        next = other;
                        nextSize = otherSize;
                    }
                }
                boolean beside = next == place - 1 || next == place + 1;
                if (next == NONE ? place != high[pile] - 1 : !beside) {
                    gaps++;
                }
            }
            return gaps;
        }

        int gapsOfAll() {
            int sum = 0;
            for (int pile = 0; pile < piles; pile++) {
                sum += gaps(pile);
            }
            return sum;
        }

        int rightPiles() {
            int count = 0;
            for (int pile = 0; pile < piles; pile++) {
                if (isRight(pile)) {
                    count++;
                }
            }
            return count;
        }

        int properPiles() {
            int count = 0;
            for (int pile = 0; pile < piles; pile++) {
                if (isProper(pile)) {
                    count++;
                }
            }
            return count;
        }

        int chippedPlates() {
            int sum = 0;
            for (int plate = 0; plate < plates; plate++) {
                sum += chipped[plate];
            }
            return sum;
        }

        int facesDown() {
            int sum = 0;
            for (int plate = 0; plate < plates; plate++) {
                sum += face[plate];
            }
            return sum;
        }

        int tiredOfAll() {
            int sum = 0;
            for (int maid = 0; maid < maids; maid++) {
                sum += tired[maid];
            }
            return sum;
        }

        void turnOver(int pile, int depth) {
            if (!hasPile(pile) || depth < 1 || depth > high[pile]) {
                return;
            }
            int top = pile * HIGHEST;
            for (int i = top, j = top + depth - 1; i < j; i++, j--) {
                int kept = lying[i];
                lying[i] = lying[j];
                lying[j] = kept;
            }
            for (int i = top; i < top + depth; i++) {
                face[lying[i]] = 1 - face[lying[i]];
            }
            turned[pile]++;
        }

        void turnBack(int pile, int depth) {
            if (hasPile(pile)) {
                turnOver(pile, depth);
                turned[pile] -= 2;
            }
        }

        void lift(int from, int to) {
            int plate = plateAt(from, 0);
            if (plate < 0 || !hasPile(to) || high[to] >= HIGHEST) {
                return;
            }
            for (int place = 1; place < high[from]; place++) {
                lying[from * HIGHEST + place - 1] = lying[from * HIGHEST + place];
            }
            high[from]--;
            for (int place = high[to]; place > 0; place--) {
                lying[to * HIGHEST + place] = lying[to * HIGHEST + place - 1];
            }
            lying[to * HIGHEST] = plate;
            high[to]++;
        }

        void chipTop(int pile) {
            int plate = plateAt(pile, 0);
            if (plate >= 0) {
                chipped[plate] = 1;
            }
        }

        void mend(int plate) {
            if (plate >= 0 && plate < plates) {
                chipped[plate] = 0;
            }
        }
    }

    /** What a text tells. */
    static final class Told {
        int lines;
        int turns;
        int chip;
        int knotCount;
        boolean chipTold;
        boolean seedTold;
        final World start = new World();
        final int[] maidNames = new int[MAIDS_MOST];
        final int[] skill = new int[MAIDS_MOST];
        final int[] pileNames = new int[PILES_MOST];
        final int[] turnMaid = new int[TURNS_MOST];
        final int[] turnPile = new int[TURNS_MOST];
        final int[] turnDepth = new int[TURNS_MOST];
        final int[] turnMinute = new int[TURNS_MOST];
        /** The laws one behind another, signs behind what they join: a kind of token, or -1 less a number. */
        final int[] knots = new int[KNOTS_MOST];
        final int[] lawFrom = new int[LAWS];
        final int[] lawTo = new int[LAWS];

        void clear() {
            lines = 0;
            turns = 0;
            chip = 0;
            knotCount = 0;
            chipTold = false;
            seedTold = false;
            start.clear();
            for (int law = 0; law < LAWS; law++) {
                lawFrom[law] = 0;
                lawTo[law] = 0;
            }
        }

        boolean hasLaw(int law) {
            return law >= 0 && law < LAWS && lawTo[law] > lawFrom[law];
        }
    }

    /** The tape's bytes, token by token. */
    static final class Tokens {
        private static final String WORDS =
            "maid pile plate turn chip seed law effort crack heed or and not size depth high skill tired gaps minute ";
        private static final int WORD_COUNT = 20;
        private static final int LETTERS_MOST = 6;
        private static final int NUMBER_MOST = 1000000;

        private final int[] language = new int[WORD_COUNT];
        private byte[] tape = null;
        private int length;
        private int next;
        int kind;
        int place;
        /** A number, or a name's letters, 5 bits each. */
        int value;

        Tokens() {
            int word = 0;
            int letters = 0;
            for (int i = 0; i < WORDS.length() && word < WORD_COUNT; i++) {
                char sign = WORDS.charAt(i);
                if (sign == ' ') {
                    word++;
                    letters = 0;
                } else {
                    language[word] |= sign - 'a' + 1 << 25 - 5 * letters;
                    letters++;
                }
            }
        }

        void begin(byte[] ofTape, int n) {
            tape = ofTape;
            length = Math.min(n, tape.length);
            next = 0;
            kind = END;
            place = 0;
            value = 0;
        }

        void step() {
            while (next < length && (tape[next] == 10 || tape[next] == 32)) {
                next++;
            }
            place = next;
            value = 0;
            if (next >= length) {
                kind = END;
            } else if (isLetter(next)) {
                stepWord();
            } else if (isDigit(next)) {
                stepNumber();
            } else {
                kind = signKind(tape[next]);
                next++;
                if (kind == LESS || kind == MORE) {
                    stepSecondSign();
                }
            }
        }

        private boolean isLetter(int at) {
            return tape[at] >= 'a' && tape[at] <= 'z';
        }

        private boolean isDigit(int at) {
            return tape[at] >= '0' && tape[at] <= '9';
        }

        private void stepWord() {
            int letters = 0;
            while (next < length && isLetter(next)) {
                if (letters < LETTERS_MOST) {
                    value |= tape[next] - 'a' + 1 << 25 - 5 * letters;
                }
                letters++;
                next++;
            }
            if (letters > LETTERS_MOST) {
                kind = NO_TOKEN;
                return;
            }
            int word = indexOf(language, WORD_COUNT, value);
            kind = word < 0 ? NAME : MAID + word;
        }

        private void stepNumber() {
            while (next < length && isDigit(next)) {
                value = Math.min(value * 10 + tape[next] - '0', NUMBER_MOST);
                next++;
            }
            kind = NUMBER;
        }

        private void stepSecondSign() {
            if (next >= length) {
                return;
            }
            if (tape[next] == '=') {
                kind = kind == LESS ? AT_MOST : AT_LEAST;
                next++;
            } else if (tape[next] == '>' && kind == LESS) {
                kind = UNLIKE;
                next++;
            }
        }

        private static int signKind(int sign) {
            switch (sign) {
                case '<':
                    return LESS;
                case '>':
                    return MORE;
                case '=':
                    return EQUAL;
                case '+':
                    return PLUS;
                case '-':
                    return MINUS;
                case '*':
                    return TIMES;
                case '/':
                    return BY;
                case '(':
                    return OPEN;
                case ')':
                    return CLOSE;
                case ';':
                    return SEMICOLON;
                default:
                    return NO_TOKEN;
            }
        }
    }

    /** Reads a text; each step answers the fault of the token at which it stands, 0 without. */
    static final class Reader {
        private final Tokens tokens = new Tokens();
        private final Formula formula = new Formula();
        private Told told = null;

        int place() {
            return tokens.place;
        }

        int read(byte[] tape, int n, Told into) {
            told = into;
            told.clear();
            tokens.begin(tape, n);
            for (int line = 0; line <= n; line++) {
                tokens.step();
                if (tokens.kind == END) {
                    return 0;
                }
                int fault = readLine();
                if (fault != 0) {
                    return fault;
                }
                told.lines++;
            }
            return CANT_STAND;
        }

        private int readLine() {
            switch (tokens.kind) {
                case MAID:
                    return readMaid();
                case PILE:
                    return readPile();
                case PLATE:
                    return readPlate();
                case TURN:
                    return readTurn();
                case CHIP:
                    return readChip();
                case SEED:
                    return readSeed();
                case LAW:
                    return readLaw();
                default:
                    return CANT_STAND;
            }
        }

        private int readMaid() {
            int maid = told.start.maids;
            if (maid >= MAIDS_MOST) {
                return TOO_MUCH;
            }
            int fault = readNewName(told.maidNames, maid);
            if (fault == 0) {
                fault = readNumber(0, 9);
            }
            if (fault != 0) {
                return fault;
            }
            told.skill[maid] = tokens.value;
            told.start.addMaid();
            return readSemicolon();
        }

        private int readPile() {
            int pile = told.start.piles;
            if (pile >= PILES_MOST) {
                return TOO_MUCH;
            }
            int fault = readNewName(told.pileNames, pile);
            if (fault != 0) {
                return fault;
            }
            told.start.addPile();
            return readSemicolon();
        }

        private int readPlate() {
            int fault = readToldName(told.pileNames, told.start.piles);
            if (fault != 0) {
                return fault;
            }
            int pile = indexOf(told.pileNames, told.start.piles, tokens.value);
            if (told.start.hasPile(pile) && told.start.high[pile] >= HIGHEST) {
                return TOO_MUCH;
            }
            fault = readNumber(1, 99);
            if (fault != 0) {
                return fault;
            }
            int size = tokens.value;
            if (told.start.hasPile(pile) && told.start.hasSize(pile, size)) {
                return TOLD_ALREADY;
            }
            fault = readNumber(0, 1);
            if (fault != 0) {
                return fault;
            }
            told.start.addPlate(pile, size, tokens.value);
            return readSemicolon();
        }

        private int readTurn() {
            int turn = told.turns;
            if (turn >= TURNS_MOST) {
                return TOO_MUCH;
            }
            int fault = readToldName(told.maidNames, told.start.maids);
            if (fault != 0) {
                return fault;
            }
            told.turnMaid[turn] = indexOf(told.maidNames, told.start.maids, tokens.value);
            fault = readToldName(told.pileNames, told.start.piles);
            if (fault != 0) {
                return fault;
            }
            told.turnPile[turn] = indexOf(told.pileNames, told.start.piles, tokens.value);
            fault = readNumber(1, HIGHEST);
            if (fault != 0) {
                return fault;
            }
            told.turnDepth[turn] = tokens.value;
            fault = readNumber(0, LAST_TURN_MINUTE);
            if (fault != 0) {
                return fault;
            }
            told.turnMinute[turn] = tokens.value;
            told.turns++;
            return readSemicolon();
        }

        private int readChip() {
            if (told.chipTold) {
                return TOLD_ALREADY;
            }
            int fault = readNumber(0, 100);
            if (fault != 0) {
                return fault;
            }
            told.chip = tokens.value;
            told.chipTold = true;
            return readSemicolon();
        }

        private int readSeed() {
            if (told.seedTold) {
                return TOLD_ALREADY;
            }
            int fault = readNumber(0, 99999);
            if (fault != 0) {
                return fault;
            }
            told.start.number = tokens.value;
            told.seedTold = true;
            return readSemicolon();
        }

        private int readLaw() {
            tokens.step();
            if (tokens.kind < EFFORT || tokens.kind > HEED) {
                return CANT_STAND;
            }
            int law = tokens.kind - EFFORT;
            if (told.hasLaw(law)) {
                return TOLD_ALREADY;
            }
            int from = told.knotCount;
            int fault = formula.read(tokens, told);
            told.lawFrom[law] = from;
            told.lawTo[law] = told.knotCount;
            return fault;
        }

        private int readNewName(int[] names, int count) {
            tokens.step();
            if (tokens.kind != NAME) {
                return CANT_STAND;
            }
            if (indexOf(names, count, tokens.value) >= 0) {
                return TOLD_ALREADY;
            }
            if (count < names.length) {
                names[count] = tokens.value;
            }
            return 0;
        }

        private int readToldName(int[] names, int count) {
            tokens.step();
            if (tokens.kind != NAME) {
                return CANT_STAND;
            }
            return indexOf(names, count, tokens.value) < 0 ? NOT_TOLD : 0;
        }

        private int readNumber(int least, int most) {
            tokens.step();
            if (tokens.kind != NUMBER) {
                return CANT_STAND;
            }
            return tokens.value < least || tokens.value > most ? TOO_MUCH : 0;
        }

        private int readSemicolon() {
            tokens.step();
            return tokens.kind == SEMICOLON ? 0 : CANT_STAND;
        }
    }

    /** Reads an E up to its semicolon: signs wait until what binds stronger has been put down. */
    static final class Formula {
        private static final int NUMBER_MOST = 9999;

        private final int[] waiting = new int[KNOTS_MOST + OPEN_MOST];
        private Tokens tokens = null;
        private Told told = null;
        private int waits;
        private int open;
        private int taken;
        private int out;
        private boolean wantsPart;
        private boolean mayBeNot;

        int read(Tokens from, Told into) {
            tokens = from;
            told = into;
            waits = 0;
            open = 0;
            taken = told.knotCount;
            out = told.knotCount;
            wantsPart = true;
            mayBeNot = true;
            for (int i = 0; i <= TAPE_MOST; i++) {
                tokens.step();
                if (!wantsPart && open == 0 && tokens.kind == SEMICOLON) {
                    putDown(1);
                    told.knotCount = out;
                    return 0;
                }
                int fault = wantsPart ? takePart() : takeJoint();
                if (fault != 0) {
                    return fault;
                }
            }
            return CANT_STAND;
        }

        private int takePart() {
            int kind = tokens.kind;
            if (kind == OPEN) {
                if (open >= OPEN_MOST) {
                    return TOO_MUCH;
                }
                open++;
                mayBeNot = true;
                return await(OPEN);
            }
            boolean leaf = kind == NUMBER || kind >= SIZE && kind <= MINUTE;
            if (!leaf && !(kind == NOT && mayBeNot)) {
                return CANT_STAND;
            }
            if (taken >= KNOTS_MOST || kind == NUMBER && tokens.value > NUMBER_MOST) {
                return TOO_MUCH;
            }
            taken++;
            if (kind == NOT) {
                return await(NOT);
            }
            put(kind == NUMBER ? -1 - tokens.value : kind);
            wantsPart = false;
            return 0;
        }

        private int takeJoint() {
            int kind = tokens.kind;
            if (kind == CLOSE && open > 0) {
                putDown(1);
                waits--;
                open--;
                return 0;
            }
            int strength = strength(kind);
            if (strength == 0 || kind == NOT) {
                return CANT_STAND;
            }
            boolean compares = strength == strength(EQUAL);
            putDown(compares ? strength + 1 : strength);
            // A comparison that still waits here is of the same C, which has one at most.
            if (compares && waits > 0 && strength(waiting[waits - 1]) == strength) {
                return CANT_STAND;
            }
            if (taken >= KNOTS_MOST) {
                return TOO_MUCH;
            }
            taken++;
            wantsPart = true;
            mayBeNot = kind == OR || kind == AND;
            return await(kind);
        }

        private int await(int kind) {
            if (waits >= waiting.length) {
                return TOO_MUCH;
            }
            waiting[waits] = kind;
            waits++;
            return 0;
        }

        // Stops at an open parenthesis, whose strength is 0.
        private void putDown(int weakest) {
            while (waits > 0 && strength(waiting[waits - 1]) >= weakest) {
                waits--;
                put(waiting[waits]);
            }
        }

        private void put(int knot) {
            if (out < KNOTS_MOST) {
                told.knots[out] = knot;
                out++;
            }
        }

        private static int strength(int kind) {
            switch (kind) {
                case OR:
                    return 1;
                case AND:
                    return 2;
                case NOT:
                    return 3;
                case LESS:
                case AT_MOST:
                case EQUAL:
                case UNLIKE:
                case AT_LEAST:
                case MORE:
                    return 4;
                case PLUS:
                case MINUS:
                    return 5;
                case TIMES:
                case BY:
                    return 6;
                default:
                    return 0;
            }
        }
    }

    /** Works out a law for a maid who would turn a pile by a depth. */
    static final class Laws {
        private static final long VALUE_MOST = 1000000000000L;

        private final long[] stack = new long[KNOTS_MOST];
        private Told told = null;
        private World world = null;
        private int maid;
        private int pile;
        private int depth;
        private boolean error;

        void lookAt(Told ofTold, World ofWorld, int ofMaid, int ofPile, int ofDepth) {
            told = ofTold;
            world = ofWorld;
            maid = ofMaid;
            pile = ofPile;
            depth = ofDepth;
        }

        /** The other value stands for a law that isn't told and for an error. */
        long value(int law, long other) {
            if (told == null || world == null || !told.hasLaw(law)) {
                return other;
            }
            int top = 0;
            error = false;
            for (int i = told.lawFrom[law]; i < told.lawTo[law]; i++) {
                int knot = told.knots[i];
                if (knot == NOT) {
                    if (top > 0) {
                        stack[top - 1] = truth(stack[top - 1] == 0);
                    }
                } else if (knot < 0 || knot >= SIZE && knot <= MINUTE) {
                    if (top < KNOTS_MOST) {
                        stack[top] = knot < 0 ? -1 - knot : nameValue(knot, law);
                        top++;
                    }
                } else if (top > 1) {
                    top--;
                    stack[top - 1] = joined(knot, stack[top - 1], stack[top]);
                }
                if (error) {
                    return other;
                }
            }
            return stack[0];
        }

        private long nameValue(int name, int law) {
            switch (name) {
                case SIZE:
                    return world.sizeAt(pile, law == CRACK_LAW ? 0 : depth - 1);
                case DEPTH:
                    return depth;
                case HIGH:
                    return world.hasPile(pile) ? world.high[pile] : 0;
                case SKILL:
                    return world.hasMaid(maid) ? told.skill[maid] : 0;
                case TIRED:
                    return world.hasMaid(maid) ? world.tired[maid] : 0;
                case GAPS:
                    return world.hasPile(pile) ? world.gaps(pile) : 0;
                default:
                    return world.minute;
            }
        }

        private long joined(int sign, long one, long other) {
            switch (sign) {
                case OR:
                    return truth(one != 0 || other != 0);
                case AND:
                    return truth(one != 0 && other != 0);
                case LESS:
                    return truth(one < other);
                case AT_MOST:
                    return truth(one <= other);
                case EQUAL:
                    return truth(one == other);
                case UNLIKE:
                    return truth(one != other);
                case AT_LEAST:
                    return truth(one >= other);
                case MORE:
                    return truth(one > other);
                case PLUS:
                    return inBounds(one + other);
                case MINUS:
                    return inBounds(one - other);
                case TIMES:
                    return product(one, other);
                default:
                    return quotient(one, other);
            }
        }

        private static long truth(boolean so) {
            return so ? 1 : 0;
        }

        private long inBounds(long value) {
            if (value > VALUE_MOST || value < -VALUE_MOST) {
                error = true;
                return 0;
            }
            return value;
        }

        // Looked at before multiplying: two values in bounds can go beyond a long.
        private long product(long one, long other) {
            if (other != 0 && Math.abs(one) > VALUE_MOST / Math.abs(other)) {
                error = true;
                return 0;
            }
            return one * other;
        }

        private long quotient(long one, long other) {
            if (other == 0) {
                error = true;
                return 0;
            }
            return one / other;
        }
    }

    /** Lets minutes go by in a world, as it goes unless told otherwise. */
    static final class Minutes {
        private static final int EFFORT_MOST = 999;
        private static final int TIRED_MOST = 99999;
        private static final int SURE = 100;
        private static final int LIKELY = 50;

        private final Laws laws = new Laws();
        private Told told = null;
        private World world = null;
        private boolean drawn;
        private int trying;
        private int idler;
        private int otherTurn;
        private int otherDepth;

        void begin(Told ofTold, World ofWorld) {
            told = ofTold;
            world = ofWorld;
            drawn = false;
            trying = NONE;
            idler = NONE;
            otherTurn = NONE;
            otherDepth = 0;
        }

        void byNumbers() {
            drawn = true;
        }

        void tryOtherwise(int what, int maid) {
            trying = what;
            idler = what == TRY_IDLER ? maid : NONE;
        }

        void turnBy(int turn, int depth) {
            otherTurn = turn;
            otherDepth = depth;
        }

        void passAll(int n) {
            for (int i = 0; i < n; i++) {
                pass();
            }
        }

        void pass() {
            if (told == null || world == null) {
                return;
            }
            for (int turn = 0; turn < told.turns && world.minute <= LAST_TURN_MINUTE; turn++) {
                if (told.turnMinute[turn] == world.minute) {
                    takeTurn(turn);
                    if (trying == TRY_TWICE) {
                        takeTurn(turn);
                    }
                }
            }
            world.minute++;
        }

        private void takeTurn(int turn) {
            int maid = told.turnMaid[turn];
            int pile = told.turnPile[turn];
            if (maid == idler || !world.hasMaid(maid) || !world.hasPile(pile)) {
                return;
            }
            int depth = depthOf(turn, pile);
            laws.lookAt(told, world, maid, pile, depth);
            boolean heeds = trying == TRY_HEEDLESS || laws.value(HEED_LAW, 1) != 0;
            if (!heeds || depth < 1 || depth > world.high[pile]) {
                world.idle++;
                return;
            }
            int effort = within(laws.value(EFFORT_LAW, depth), EFFORT_MOST);
            world.turnOver(pile, depth);
            world.tired[maid] = Math.min(world.tired[maid] + effort, TIRED_MOST);
            if (chips(within(laws.value(CRACK_LAW, told.chip), SURE))) {
                world.chipTop(pile);
            }
        }

        private int depthOf(int turn, int pile) {
            if (turn == otherTurn) {
                return otherDepth;
            }
            if (trying == TRY_ALL) {
                return world.high[pile];
            }
            return trying == TRY_DEEPER ? told.turnDepth[turn] + 1 : told.turnDepth[turn];
        }

        private static int within(long value, int most) {
            return (int) Math.max(0L, Math.min(value, (long) most));
        }

        private boolean chips(int odds) {
            if (!drawn) {
                return odds >= LIKELY;
            }
            if (odds == 0 || odds == SURE) {
                return odds == SURE;
            }
            world.number = world.number * 1103515245L + 12345L & 2147483647L;
            return world.number / 65536 % 100 < odds;
        }
    }

    /** What was done by call, the latest twenty. */
    static final class Doings {
        private final int[] kinds = new int[UNDO_MOST];
        private final int[] ones = new int[UNDO_MOST];
        private final int[] others = new int[UNDO_MOST];
        private int left = 0;
        private int next = 0;

        void forget() {
            left = 0;
        }

        int left() {
            return left;
        }

        void note(int kind, int one, int other) {
            kinds[next] = kind;
            ones[next] = one;
            others[next] = other;
            next = (next + 1) % UNDO_MOST;
            left = Math.min(left + 1, UNDO_MOST);
        }

        /** Afterwards kind, one and other are those of what was taken. */
        boolean takeLatest() {
            if (left == 0) {
                return false;
            }
            next = (next + UNDO_MOST - 1) % UNDO_MOST;
            left--;
            return true;
        }

        int kind() {
            return kinds[next];
        }

        int one() {
            return ones[next];
        }

        int other() {
            return others[next];
        }
    }

    /** What was seen, strikes among it. */
    static final class SeenLog {
        private final int[] minutes = new int[SEEN_MOST];
        private final int[] piles = new int[SEEN_MOST];
        private final int[] sizes = new int[SEEN_MOST];
        private final boolean[] was = new boolean[SEEN_MOST];
        private final int[] struck = new int[SEEN_MOST];
        private final boolean[] counts = new boolean[SEEN_MOST];
        private int total = 0;
        private int knownFirst = NONE;

        void forget() {
            total = 0;
            knownFirst = NONE;
        }

        int total() {
            return total;
        }

        int knownBy() {
            return knownFirst == NONE ? total : knownFirst;
        }

        boolean knowBy(int n) {
            if (n < NONE || n > total) {
                return false;
            }
            knownFirst = n;
            return true;
        }

        int addSight(int afterMinutes, int pile, int size, boolean is) {
            if (total >= SEEN_MOST) {
                return NONE;
            }
            minutes[total] = afterMinutes;
            piles[total] = pile;
            sizes[total] = size;
            was[total] = is;
            struck[total] = NONE;
            total++;
            return total - 1;
        }

        int addStrike(int which) {
            if (which < 0 || which >= total || total >= SEEN_MOST) {
                return NONE;
            }
            minutes[total] = 0;
            struck[total] = which;
            total++;
            return total - 1;
        }

        // From the last one on: whether a strike counts is known before what it strikes is looked at.
        void weigh() {
            int known = knownBy();
            for (int i = 0; i < known; i++) {
                counts[i] = true;
            }
            for (int i = known - 1; i >= 0; i--) {
                if (counts[i] && struck[i] >= 0) {
                    counts[struck[i]] = false;
                }
            }
        }

        int longest() {
            int longest = 0;
            for (int i = 0; i < knownBy(); i++) {
                if (counts[i]) {
                    longest = Math.max(longest, minutes[i]);
                }
            }
            return longest;
        }

        boolean agrees(World world, int gone) {
            for (int i = 0; i < knownBy(); i++) {
                boolean asked = counts[i] && struck[i] < 0 && minutes[i] == gone;
                if (asked && (world.sizeAt(piles[i], 0) == sizes[i]) != was[i]) {
                    return false;
                }
            }
            return true;
        }
    }

    /** What turning by each depth makes of each order and of each row of faces, both as numbers. */
    static final class Turning {
        private static final int ORDERS = 120;
        private static final int FACES = 32;

        private final int[] orders = new int[ORDERS * HIGHEST];
        private final int[] faces = new int[FACES * HIGHEST];

        Turning() {
            int[] row = new int[HIGHEST];
            for (int order = 0; order < ORDERS; order++) {
                for (int depth = 1; depth <= HIGHEST; depth++) {
                    lay(row, order);
                    reverse(row, depth);
                    orders[order * HIGHEST + depth - 1] = orderOf(row, HIGHEST);
                }
            }
            for (int mask = 0; mask < FACES; mask++) {
                for (int depth = 1; depth <= HIGHEST; depth++) {
                    faces[mask * HIGHEST + depth - 1] = flipped(mask, depth);
                }
            }
        }

        private static void lay(int[] row, int order) {
            for (int place = 0; place < HIGHEST; place++) {
                int greater = order / FACTORIAL[place] % (place + 1);
                int own = place - greater;
                for (int above = 0; above < place; above++) {
                    if (row[above] >= own) {
                        row[above]++;
                    }
                }
                row[place] = own;
            }
        }

        private static int flipped(int mask, int depth) {
            int made = mask >> depth << depth;
            for (int place = 0; place < depth; place++) {
                if ((mask >> place & 1) == 0) {
                    made |= 1 << depth - 1 - place;
                }
            }
            return made;
        }

        int ofOrder(int order, int depth) {
            return orders[order * HIGHEST + depth - 1];
        }

        int ofFaces(int mask, int depth) {
            return faces[mask * HIGHEST + depth - 1];
        }
    }

    /** All piles of one height, as states; state 0 is the one that is right, or proper. */
    static final class Chart {
        private static final int QUEUED = 1 << 10;

        private final Turning turning;
        private final int high;
        private final boolean faced;
        private final int states;
        private final int[] least;
        private final int[] rows;
        private final int[] tally = new int[FEWEST_MOST + 1];
        private int[] reached = null;
        private int[] moves = null;
        private int[] stack = null;
        private int stacked = 0;

        Chart(Turning turning, int high, int which) {
            this.turning = turning;
            this.high = high;
            faced = which == 1;
            states = faced ? FACTORIAL[high] << high : FACTORIAL[high];
            least = new int[states];
            rows = new int[states];
        }

        // A turn is its own way back, so what is found from state 0 holds towards it.
        void measure() {
            int[] queue = new int[states];
            for (int state = 1; state < states; state++) {
                least[state] = NONE;
            }
            rows[0] = 1;
            int end = 1;
            for (int at = 0; at < end && at < states; at++) {
                int state = queue[at];
                tally[least[state]]++;
                for (int depth = 1; depth <= high; depth++) {
                    int next = turned(state, depth);
                    if (least[next] == NONE) {
                        least[next] = least[state] + 1;
                        queue[end] = next;
                        end++;
                    }
                    if (least[next] == least[state] + 1) {
                        rows[next] += rows[state];
                    }
                }
            }
        }

        private int turned(int state, int depth) {
            if (!faced) {
                return turning.ofOrder(state, depth);
            }
            int faces = state & (1 << high) - 1;
            return turning.ofOrder(state >> high, depth) << high | turning.ofFaces(faces, depth);
        }

        private boolean has(int state) {
            return state >= 0 && state < states;
        }

        int leastOf(int state) {
            return has(state) ? least[state] : NONE;
        }

        int rowsOf(int state) {
            return has(state) ? rows[state] : NONE;
        }

        int nearing(int state) {
            if (!has(state)) {
                return NONE;
            }
            for (int depth = 1; depth <= high; depth++) {
                if (least[turned(state, depth)] == least[state] - 1) {
                    return depth;
                }
            }
            return NOTHING;
        }

        int furthestLeast() {
            int furthest = 0;
            for (int fewest = 0; fewest <= FEWEST_MOST; fewest++) {
                if (tally[fewest] > 0) {
                    furthest = fewest;
                }
            }
            return furthest;
        }

        int statesAt(int fewest) {
            return fewest < 0 || fewest > FEWEST_MOST ? NONE : tally[fewest];
        }

        // From every state as many others can come, so it is enough to look from state 0.
        int reachedBy(int times) {
            if (times < 0 || times > TIMES_MOST) {
                return NONE;
            }
            if (reached == null) {
                reached = new int[TIMES_MOST + 1];
                reach();
            }
            return reached[times];
        }

        // Whatever comes of so many turns comes of two more, too (one turn there and back), so for each state it is
        // enough to know by how few turns, of an even and of an odd number, it comes.
        private void reach() {
            int[] steps = new int[2 * states];
            int[] queue = new int[2 * states];
            for (int node = 1; node < steps.length; node++) {
                steps[node] = NONE;
            }
            int end = 1;
            for (int at = 0; at < end && at < 2 * states; at++) {
                int node = queue[at];
                int step = steps[node];
                for (int times = step; times <= TIMES_MOST && (high > 0 || times == step); times += 2) {
                    reached[times]++;
                }
                int otherHalf = node < states ? states : 0;
                for (int depth = 1; depth <= high; depth++) {
                    int next = otherHalf + turned(node < states ? node : node - states, depth);
                    if (steps[next] == NONE) {
                        steps[next] = step + 1;
                        queue[end] = next;
                        end++;
                    }
                }
            }
        }

        int winner(int state) {
            if (state <= 0 || !has(state)) {
                return 2;
            }
            int wins = winsOf(state);
            if (wins != 0) {
                return 0;
            }
            return lossesOf(state) == allDepths() ? 1 : 2;
        }

        int opening(int state) {
            if (state <= 0 || !has(state)) {
                return NOTHING;
            }
            int comes = winsOf(state);
            if (comes == 0) {
                int losses = lossesOf(state);
                comes = losses == allDepths() ? losses : allDepths() & ~losses;
            }
            for (int depth = 1; depth < high; depth++) {
                if ((comes >> depth - 1 & 1) != 0) {
                    return depth;
                }
            }
            return high;
        }

        private int winsOf(int state) {
            playAll();
            return moves[state] & 31;
        }

        private int lossesOf(int state) {
            playAll();
            return moves[state] >> 5 & 31;
        }

        // Bit 0 is depth 1, by which an order alone may not be turned in a game.
        private int allDepths() {
            int all = (1 << high) - 1;
            return faced ? all : all & ~1;
        }

        // Backwards from the end of the game; what is never told to be won or lost can be put off for ever.
        private void playAll() {
            if (moves != null) {
                return;
            }
            moves = new int[states];
            stack = new int[states];
            stacked = 0;
            int all = allDepths();
            for (int depth = 1; depth <= high; depth++) {
                if ((all >> depth - 1 & 1) != 0) {
                    mark(turned(0, depth), 1 << depth - 1);
                }
            }
            // Each state has ten marks, and comes onto the stack once a mark at most.
            for (int i = 0; i < 10 * states && stacked > 0; i++) {
                stacked--;
                int state = stack[stacked];
                moves[state] &= ~QUEUED;
                tellThoseBefore(state, all);
            }
        }

        private void tellThoseBefore(int state, int all) {
            int wins = moves[state] & 31;
            int losses = moves[state] >> 5 & 31;
            for (int depth = 1; depth <= high; depth++) {
                int bit = 1 << depth - 1;
                if ((all & bit) == 0) {
                    continue;
                }
                if ((wins & ~bit) != 0) {
                    mark(turned(state, depth), bit << 5);
                } else if ((losses | bit) == all) {
                    mark(turned(state, depth), bit);
                }
            }
        }

        private void mark(int state, int bit) {
            // At state 0 the game is over.
            if (state == 0 || (moves[state] & bit) != 0) {
                return;
            }
            moves[state] |= bit;
            if ((moves[state] & QUEUED) == 0 && stacked < stack.length) {
                moves[state] |= QUEUED;
                stack[stacked] = state;
                stacked++;
            }
        }
    }
}
