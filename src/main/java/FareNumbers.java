/**
 * Fare numbers of a tramway net: halts with numbers, lines between them, laws in texts, days of riders
 * and searches over the net. The document (../shared/DOC.md) says what each public method answers; words
 * in capitals are its terms.
 */
public final class FareNumbers {
    public static final int NONE = -1;

    private static final int OTHERS = -2;
    private static final int NO_COSTS = -100;

    private static final int HALTS = 7;
    private static final int ALL_HALTS = 127;
    private static final int LINES = 10;
    private static final int MOST_NUMBER = 99;
    private static final int MOST_FUND = 99999;
    private static final int MOST_GRANT = 99;
    private static final int LAST_DAY = 9999;
    private static final int MOST_DAYS = 60;
    private static final int MOST_SEED = 9999;
    private static final int MOST_YEARS = 40;
    private static final int MOST_RIDES = 10;
    private static final int USUAL_RIDES = 5;
    private static final int MOST_COSTS = 99;
    private static final int USUAL_COSTS = 1;
    private static final int MOST_APART = 3;

    private static final int PAGES = 25;
    private static final int STEPS = 30;
    private static final int TEXTS = 4;
    private static final int SAID = 8;
    private static final int TAPE = 300;
    private static final int FEED = 20;
    private static final int CLAUSES = 24;
    private static final int NESTING = 8;
    /** A law may leave at most five values waiting in each of nine nested ONES. */
    private static final int STACK = 64;
    private static final int MOST_VALUE = 1000000;

    private static final int PLATED = 0;
    private static final int TURNED = 1;
    private static final int RIDDEN = 2;

    private static final int CANT_STAND = 1;
    private static final int NOT_TOLD = 2;
    private static final int TOO_DEEP = 3;
    private static final int SECOND_LAW = 4;
    private static final int OTHER_NAME = 5;
    private static final int TOO_MANY = 6;

    /** The words of the language, each at its TOKEN's number times the width. */
    private static final String WORDS =
        "rides  costs  lay    to     plate  at     turn   grant  day    which  fund   open   diff   low    high   old    new    beside fare   sign   if     then   else   end    or     and    not    ";
    private static final int WORD_WIDTH = 7;
    private static final int WORD_COUNT = 27;

    // TOKENS; those that stand in a SUM are the operations of a law as well
    private static final int RIDES = 0;
    private static final int COSTS = 1;
    private static final int LAY = 2;
    private static final int TO = 3;
    private static final int PLATE = 4;
    private static final int AT = 5;
    private static final int TURN = 6;
    private static final int GRANT = 7;
    private static final int DAY = 8;
    private static final int WHICH = 9;
    private static final int FUND = 10;
    private static final int OPEN = 11;
    private static final int DIFF = 12;
    private static final int LOW = 13;
    private static final int HIGH = 14;
    private static final int OLD = 15;
    private static final int NEW = 16;
    private static final int BESIDE = 17;
    private static final int FARE = 18;
    private static final int SIGN = 19;
    private static final int IF = 20;
    private static final int THEN = 21;
    private static final int ELSE = 22;
    private static final int END = 23;
    private static final int OR = 24;
    private static final int AND = 25;
    private static final int NOT = 26;
    private static final int NUMBER = 27;
    private static final int LESS = 28;
    private static final int AT_MOST = 29;
    private static final int MORE = 30;
    private static final int AT_LEAST = 31;
    private static final int LIKE = 32;
    private static final int UNLIKE = 33;
    private static final int PLUS = 34;
    private static final int MINUS = 35;
    private static final int TIMES = 36;
    private static final int OVER = 37;
    private static final int OPENING = 38;
    private static final int CLOSING = 39;
    private static final int STOP = 40;
    private static final int LAST = 41;
    private static final int STRANGE = 42;
    private static final int NEGATE = 43;

    private final World world = new World();
    private final World kept = new World();
    private final Standing ahead = new Standing();
    private final Reader reader = new Reader();
    private final Net net = new Net();
    private final Numbering numbering = new Numbering();
    private final Places spaced = new Places();
    private final Places banded = new Places();
    private final Weights weights = new Weights();
    private final Walks walks = new Walks();

    public FareNumbers() {
    }

    public int lay(int a, int b) {
        return world.addLine(a, b);
    }

    public int feed(int a, int b, int c, int d, int e) {
        if (reader.length + FEED > TAPE) {
            return NONE;
        }
        reader.take(a);
        reader.take(b);
        reader.take(c);
        reader.take(d);
        reader.take(e);
        return reader.length;
    }

    public int end(int n) {
        if (n < 0 || n > reader.length) {
            return NONE;
        }
        reader.length = n;
        return n;
    }

    public int text() {
        if (world.textCount >= TEXTS) {
            return NONE;
        }
        if (!reader.read(world.texts[world.textCount])) {
            return NONE;
        }
        world.textCount++;
        return world.textCount - 1;
    }

    public int fault(int what) {
        if (!reader.hasRead || what < 0 || what > 1) {
            return NONE;
        }
        return what == 0 ? reader.fault : reader.place;
    }

    public boolean by(int text) {
        if (text != NONE && !world.hasText(text)) {
            return false;
        }
        world.ruling = text;
        return true;
    }

    public int plate(int halt, int number) {
        return world.putPlate(halt, number, true);
    }

    public boolean turn(int line) {
        return world.turnLine(line, true);
    }

    public boolean grant(int pounds) {
        return world.giveGrant(pounds, true);
    }

    public int day(int n) {
        if (n < 1 || n > MOST_DAYS || world.now.day + n > LAST_DAY) {
            return NONE;
        }
        int came = 0;
        for (int i = 0; i < n; i++) {
            came += world.passDay(true);
        }
        return came;
    }

    public int played(int text) {
        if (!world.hasText(text)) {
            return OTHERS;
        }
        Text told = world.texts[text];
        for (int i = 0; i < told.clauses; i++) {
            if (!world.perform(told.kinds[i], told.firsts[i], told.seconds[i])) {
                return i;
            }
        }
        return NONE;
    }

    public int years(int seed, int n) {
        if (seed < 0 || seed > MOST_SEED || n < 1 || n > MOST_YEARS) {
            return NONE;
        }
        world.keepStep();
        world.now.x = seed * 2 + 439;
        for (int i = 0; i < n; i++) {
            world.drawOnce(world.now.draw());
        }
        return world.now.day;
    }

    public int undo() {
        return world.takeBack();
    }

    public int of(int line, int what) {
        if (!world.hasLine(line)) {
            return NONE;
        }
        switch (what) {
            case 0:
                return world.one[line];
            case 1:
                return world.other[line];
            case 2:
                return world.fareOf(line);
            case 3:
                return world.openBits() >> line & 1;
            case 4:
                return world.lawSays(RIDES, line, 0);
            default:
                return NONE;
        }
    }

    public int ofHalt(int halt, int what) {
        if (halt < 0 || halt >= HALTS || what < 0 || what > 1) {
            return NONE;
        }
        return what == 0 ? world.now.numbers[halt] : world.besideBits(halt);
    }

    public int costs(int halt, int number) {
        if (halt < 0 || halt >= HALTS || number < 0 || number > MOST_NUMBER) {
            return NO_COSTS;
        }
        return world.lawSays(COSTS, halt, number);
    }

    public int is(int what) {
        switch (what) {
            case 0:
                return world.now.day;
            case 1:
                return world.now.x;
            case 2:
                return world.now.fund;
            case 3:
                return world.openBits();
            case 4:
                return openFares();
            default:
                return OTHERS;
        }
    }

    private int openFares() {
        int open = world.openBits();
        int sum = 0;
        for (int line = 0; line < LINES; line++) {
            if ((open >> line & 1) != 0) {
                sum += world.fareOf(line);
            }
        }
        return sum;
    }

    public int book(int i, int what) {
        return i == NONE ? world.now.written : world.now.told(i, what);
    }

    public int foretold(int n) {
        if (n < 1 || n > MOST_DAYS) {
            return NONE;
        }
        ahead.become(world.now);
        for (int i = 0; i < n && world.now.day < LAST_DAY; i++) {
            world.passDay(false);
        }
        int fund = world.now.fund;
        world.now.become(ahead);
        return fund;
    }

    public boolean fair() {
        int open = world.openBits();
        for (int line = 0; line < LINES; line++) {
            if ((open >> line & 1) != 0 && (world.fareOf(line) == 0 || likeAbove(line, open) != NONE)) {
                return false;
            }
        }
        return true;
    }

    /** The lowest OPEN LINE above this one whose FARE is like its own, or NONE. */
    private int likeAbove(int line, int open) {
        int fare = world.fareOf(line);
        for (int next = line + 1; next < LINES; next++) {
            if ((open >> next & 1) != 0 && world.fareOf(next) == fare) {
                return next;
            }
        }
        return NONE;
    }

    public int left() {
        int open = world.openBits();
        if (open == 0) {
            return NONE;
        }
        int most = Integer.bitCount(open);
        int bits = (1 << most) - 1;
        for (int line = 0; line < LINES; line++) {
            int fare = (open >> line & 1) != 0 ? world.fareOf(line) : 0;
            if (fare >= 1 && fare <= most) {
                bits &= ~(1 << fare - 1);
            }
        }
        return bits;
    }

    public int twin(boolean second) {
        int open = world.openBits();
        for (int line = 0; line < LINES; line++) {
            int like = (open >> line & 1) != 0 ? likeAbove(line, open) : NONE;
            if (like != NONE) {
                return second ? like : line;
            }
        }
        return NONE;
    }

    public int whole(int halt) {
        if (halt < 0 || halt >= HALTS) {
            return NONE;
        }
        net.look(world);
        numbering.solve(net);
        // unlike FARES, none above how many LINES there are: then none is LEFT OUT
        return numbering.greatest == net.count ? net.ofSearch(numbering.row, halt) : NONE;
    }

    public long wholes() {
        net.look(world);
        return numbering.wholeWays(net);
    }

    public int span(int halt) {
        if (halt < NONE || halt >= HALTS) {
            return NONE;
        }
        net.look(world);
        numbering.solve(net);
        return halt == NONE ? numbering.greatest : net.ofSearch(numbering.row, halt);
    }

    public int apart(int near, int far, int halt) {
        if (near < 0 || near > MOST_APART || far < 0 || far > MOST_APART || halt < NONE || halt >= HALTS) {
            return NONE;
        }
        net.look(world);
        spaced.space(net, near, far);
        return halt == NONE ? spaced.least : net.ofSearch(spaced.place, halt);
    }

    public int alike(int line) {
        if (line < NONE || line >= LINES) {
            return NONE;
        }
        net.look(world);
        weights.solveAlike(net);
        if (weights.ways == 0) {
            return NONE;
        }
        if (line == NONE) {
            return weights.sum;
        }
        return net.isOpen(line) ? weights.alikeRow[line] : NONE;
    }

    public long alikes() {
        net.look(world);
        weights.solveAlike(net);
        return weights.ways;
    }

    public int unlike(int line) {
        if (line < 0 || line >= LINES) {
            return NONE;
        }
        net.look(world);
        weights.solveUnlike(net);
        return weights.canUnlike && net.isOpen(line) ? weights.unlikeRow[line] : NONE;
    }

    public int band(int halt) {
        if (halt < NONE || halt >= HALTS) {
            return NONE;
        }
        net.look(world);
        banded.bind(net);
        return halt == NONE ? banded.least : net.ofSearch(banded.place, halt);
    }

    public int total() {
        net.look(world);
        return walks.leastFares(net);
    }

    public int mend() {
        net.look(world);
        return numbering.mending(net, world.now.numbers);
    }

    public int names() {
        net.look(world);
        return walks.swaps(net);
    }

    public int parts() {
        net.look(world);
        return net.countParts();
    }

    public int cuts() {
        net.look(world);
        return net.cutBits();
    }

    public int game(int marked) {
        if (marked < 0 || marked > ALL_HALTS) {
            return NONE;
        }
        net.look(world);
        return walks.winner(net, marked) == NONE ? 0 : 1;
    }

    public int mark(int marked) {
        if (marked < 0 || marked > ALL_HALTS) {
            return NONE;
        }
        net.look(world);
        return walks.winner(net, marked);
    }

    public int ride(int a, int b) {
        if (a < 0 || a >= HALTS || b < 0 || b >= HALTS) {
            return NONE;
        }
        net.look(world);
        return walks.rideFares(net, world.now.numbers, a, b);
    }

    public int change(int a, int b, int i) {
        if (a < 0 || a >= HALTS || b < 0 || b >= HALTS || i < 0 || i >= HALTS) {
            return OTHERS;
        }
        net.look(world);
        return walks.rideHalt(net, world.now.numbers, a, b, i);
    }

    public int said(int line, int rides) {
        if (line == NONE) {
            world.saidCount = 0;
            return 0;
        }
        if (!world.hasLine(line) || rides < 0 || rides > MOST_RIDES || world.saidCount >= SAID) {
            return OTHERS;
        }
        world.saidLine[world.saidCount] = line;
        world.saidRides[world.saidCount] = rides;
        world.saidCount++;
        return world.saidCount;
    }

    public int whose() {
        int bits = 0;
        for (int text = 0; text < world.textCount; text++) {
            if (world.saysAll(world.texts[text])) {
                bits |= 1 << text;
            }
        }
        return bits;
    }

    public int dearest() {
        int open = world.openBits();
        int best = NONE;
        for (int line = 0; line < LINES; line++) {
            if ((open >> line & 1) != 0 && (best == NONE || world.fareOf(line) > world.fareOf(best))) {
                best = line;
            }
        }
        return best;
    }

    public int highest() {
        int best = 0;
        for (int halt = 1; halt < HALTS; halt++) {
            if (world.now.numbers[halt] > world.now.numbers[best]) {
                best = halt;
            }
        }
        return best;
    }

    public int ledger(int what) {
        if (what < PLATED || what > RIDDEN) {
            return OTHERS;
        }
        int count = 0;
        for (int i = 0; i < world.now.written; i++) {
            if (world.now.told(i, 1) == what) {
                count++;
            }
        }
        return count;
    }

    public int image() {
        kept.become(world);
        return world.now.day;
    }

    public int back() {
        world.become(kept);
        return world.now.day;
    }

    public int about(int what) {
        switch (what) {
            case 0:
                return world.lines;
            case 1:
                return world.textCount;
            case 2:
                return world.ruling;
            case 3:
                return world.stepCount;
            case 4:
                return world.saidCount;
            case 5:
                return reader.length;
            default:
                return OTHERS;
        }
    }

    /** What a STEP takes back: NUMBERS, which LINES are not OPEN, FUND, DAY, X and the BOOK. */
    private static final class Standing {
        final int[] numbers = new int[HALTS];
        /** The BOOK from the eldest on, each of its lines in one number. */
        private final int[] pages = new int[PAGES];
        int written;
        /** Kept as the LINES that are shut, so that LINES told later are OPEN when a STEP is taken back. */
        int shut;
        int fund = 50;
        int day;
        int x = 439;

        void become(Standing from) {
            System.arraycopy(from.numbers, 0, numbers, 0, HALTS);
            System.arraycopy(from.pages, 0, pages, 0, PAGES);
            written = from.written;
            shut = from.shut;
            fund = from.fund;
            day = from.day;
            x = from.x;
        }

        int draw() {
            int drawn = x;
            x = (x * 691 + 569) % 31013;
            return drawn;
        }

        void write(int what, int which, int number) {
            if (written >= PAGES) {
                System.arraycopy(pages, 1, pages, 0, PAGES - 1);
                written = PAGES - 1;
            }
            pages[written] = ((day * 3 + what) * 10 + which) * 100 + number;
            written++;
        }

        /** What the i-th line of the BOOK tells, from the eldest on. */
        int told(int i, int what) {
            if (i < 0 || i >= written) {
                return OTHERS;
            }
            int page = pages[i];
            switch (what) {
                case 0:
                    return page / 3000;
                case 1:
                    return page / 1000 % 3;
                case 2:
                    return page / 100 % 10;
                case 3:
                    return page % 100;
                default:
                    return OTHERS;
            }
        }
    }

    /** A TEXT as it was read: its CLAUSES, and its laws as operations that put values on a stack. */
    private static final class Text {
        /** An operation (6 bits) and what it goes with, above. */
        final int[] code = new int[TAPE];
        final int[] kinds = new int[CLAUSES];
        final int[] firsts = new int[CLAUSES];
        final int[] seconds = new int[CLAUSES];
        int length;
        int clauses;
        int ridesFrom;
        int ridesTo;
        int costsFrom;
        int costsTo;

        void clear() {
            length = 0;
            clauses = 0;
            ridesFrom = 0;
            ridesTo = 0;
            costsFrom = 0;
            costsTo = 0;
        }

        void become(Text from) {
            System.arraycopy(from.code, 0, code, 0, TAPE);
            System.arraycopy(from.kinds, 0, kinds, 0, CLAUSES);
            System.arraycopy(from.firsts, 0, firsts, 0, CLAUSES);
            System.arraycopy(from.seconds, 0, seconds, 0, CLAUSES);
            length = from.length;
            clauses = from.clauses;
            ridesFrom = from.ridesFrom;
            ridesTo = from.ridesTo;
            costsFrom = from.costsFrom;
            costsTo = from.costsTo;
        }

        boolean has(int law) {
            return law == RIDES ? ridesTo > ridesFrom : costsTo > costsFrom;
        }

        /** Puts an operation behind the others: where it is. */
        int emit(int operation, int with) {
            if (length >= TAPE) {
                return TAPE - 1;
            }
            code[length] = with << 6 | operation;
            length++;
            return length - 1;
        }

        /** Lets the jump at that place go to the place behind all that is there yet. */
        void land(int at) {
            if (at >= 0 && at < TAPE) {
                code[at] = length << 6 | code[at] & 63;
            }
        }

        /** A law whose operations are those from there on. */
        void addLaw(int kind, int from) {
            if (kind == RIDES) {
                ridesFrom = from;
                ridesTo = length;
            } else {
                costsFrom = from;
                costsTo = length;
            }
            add(kind, 0, 0);
        }

        void add(int kind, int first, int second) {
            if (clauses < CLAUSES) {
                kinds[clauses] = kind;
                firsts[clauses] = first;
                seconds[clauses] = second;
                clauses++;
            }
        }
    }

    /** All that AN IMAGE holds, and what is done to it by hand. */
    private static final class World {
        final Standing now = new Standing();
        final int[] one = new int[LINES];
        final int[] other = new int[LINES];
        final Text[] texts = new Text[TEXTS];
        final int[] saidLine = new int[SAID];
        final int[] saidRides = new int[SAID];
        private final Standing[] steps = new Standing[STEPS];
        private final Teller teller = new Teller();
        int lines;
        int textCount;
        int ruling = NONE;
        int saidCount;
        int stepCount;
        /** Where in the ring of steps the eldest one is. */
        private int firstStep;

        World() {
            for (int i = 0; i < TEXTS; i++) {
                texts[i] = new Text();
            }
            for (int i = 0; i < STEPS; i++) {
                steps[i] = new Standing();
            }
        }

        void become(World from) {
            now.become(from.now);
            System.arraycopy(from.one, 0, one, 0, LINES);
            System.arraycopy(from.other, 0, other, 0, LINES);
            System.arraycopy(from.saidLine, 0, saidLine, 0, SAID);
            System.arraycopy(from.saidRides, 0, saidRides, 0, SAID);
            for (int i = 0; i < TEXTS; i++) {
                texts[i].become(from.texts[i]);
            }
            for (int i = 0; i < STEPS; i++) {
                steps[i].become(from.steps[i]);
            }
            lines = from.lines;
            textCount = from.textCount;
            ruling = from.ruling;
            saidCount = from.saidCount;
            stepCount = from.stepCount;
            firstStep = from.firstStep;
        }

        boolean hasLine(int line) {
            return line >= 0 && line < lines;
        }

        boolean hasText(int text) {
            return text >= 0 && text < textCount;
        }

        int openBits() {
            return (1 << lines) - 1 & ~now.shut;
        }

        /** The FARE of a LINE, OPEN or not; 0 for others. */
        int fareOf(int line) {
            if (line < 0 || line >= lines) {
                return 0;
            }
            return Math.abs(now.numbers[one[line]] - now.numbers[other[line]]);
        }

        int besideBits(int halt) {
            int bits = 0;
            for (int line = 0; line < lines; line++) {
                if ((now.shut >> line & 1) != 0) {
                    continue;
                }
                if (one[line] == halt) {
                    bits |= 1 << other[line];
                } else if (other[line] == halt) {
                    bits |= 1 << one[line];
                }
            }
            return bits;
        }

        private Text theText() {
            return hasText(ruling) ? texts[ruling] : null;
        }

        /** rides of a LINE or costs of a HALT and a NUMBER, by THE TEXT. */
        int lawSays(int law, int which, int number) {
            return teller.tell(this, theText(), law, which, number);
        }

        /** Whether by that TEXT all that was SAID is so. */
        boolean saysAll(Text text) {
            for (int i = 0; i < saidCount; i++) {
                if (teller.tell(this, text, RIDES, saidLine[i], 0) != saidRides[i]) {
                    return false;
                }
            }
            return true;
        }

        int addLine(int a, int b) {
            if (a < 0 || a >= HALTS || b < 0 || b >= HALTS || a == b || lines >= LINES) {
                return NONE;
            }
            for (int line = 0; line < lines; line++) {
                if (one[line] == a && other[line] == b || one[line] == b && other[line] == a) {
                    return NONE;
                }
            }
            one[lines] = a;
            other[lines] = b;
            lines++;
            return lines - 1;
        }

        void keepStep() {
            if (stepCount >= STEPS) {
                firstStep = (firstStep + 1) % STEPS;
                stepCount = STEPS - 1;
            }
            steps[(firstStep + stepCount) % STEPS].become(now);
            stepCount++;
        }

        int takeBack() {
            if (stepCount <= 0) {
                return NONE;
            }
            stepCount--;
            now.become(steps[(firstStep + stepCount) % STEPS]);
            return stepCount;
        }

        int putPlate(int halt, int number, boolean step) {
            if (halt < 0 || halt >= HALTS || number < 0 || number > MOST_NUMBER || now.numbers[halt] == number) {
                return NONE;
            }
            int cost = teller.tell(this, theText(), COSTS, halt, number);
            if (now.fund < cost) {
                return NONE;
            }
            if (step) {
                keepStep();
            }
            now.fund -= cost;
            now.numbers[halt] = number;
            now.write(PLATED, halt, number);
            return cost;
        }

        boolean turnLine(int line, boolean step) {
            if (!hasLine(line)) {
                return false;
            }
            if (step) {
                keepStep();
            }
            now.shut ^= 1 << line;
            now.write(TURNED, line, openBits() >> line & 1);
            return true;
        }

        boolean giveGrant(int pounds, boolean step) {
            if (pounds < 1 || pounds > MOST_GRANT || now.fund + pounds > MOST_FUND) {
                return false;
            }
            if (step) {
                keepStep();
            }
            now.fund += pounds;
            return true;
        }

        /** One DAY, which can pass: what comes in. */
        int passDay(boolean step) {
            if (step) {
                keepStep();
            }
            Text law = theText();
            int came = 0;
            for (int line = 0; line < lines; line++) {
                boolean isOpen = (now.shut >> line & 1) == 0;
                if (isOpen && now.draw() % 10 < teller.tell(this, law, RIDES, line, 0)) {
                    int fare = fareOf(line);
                    came += fare;
                    now.fund = Math.min(MOST_FUND, now.fund + fare);
                    now.write(RIDDEN, line, fare);
                }
            }
            now.day++;
            return came;
        }

        /** What a draw of YEARS does, if it can be done. */
        void drawOnce(int drawn) {
            int sixth = drawn / 6;
            switch (drawn % 6) {
                case 0:
                    putPlate(sixth % HALTS, drawn % 20, false);
                    break;
                case 1:
                    if (drawn % 4 == 3) {
                        turnLine(sixth % LINES, false);
                    }
                    break;
                case 2:
                    giveGrant(1 + sixth % 9, false);
                    break;
                default:
                    if (now.day < LAST_DAY) {
                        passDay(false);
                    }
                    break;
            }
        }

        /** Does a CLAUSE as by hand: whether it could be done wholly. */
        boolean perform(int kind, int first, int second) {
            switch (kind) {
                case LAY:
                    return addLine(first, second) != NONE;
                case PLATE:
                    return putPlate(second, first, true) != NONE;
                case TURN:
                    return turnLine(first, true);
                case GRANT:
                    return giveGrant(first, true);
                case DAY:
                    int passed = Math.min(first, LAST_DAY - now.day);
                    for (int i = 0; i < passed; i++) {
                        passDay(true);
                    }
                    return passed == first;
                default:
                    return true;
            }
        }
    }

    /** Tells what a law says, by a stack of values. */
    private static final class Teller {
        private final int[] stack = new int[STACK];
        private int top;
        private int which;
        private int otherNumber;

        /** rides or costs by a TEXT (null: by none) of the LINE or the HALT of that number. */
        int tell(World world, Text text, int law, int about, int number) {
            boolean isRides = law == RIDES;
            if (text == null || !text.has(law)) {
                return isRides ? USUAL_RIDES : USUAL_COSTS;
            }
            which = about;
            otherNumber = number;
            top = 0;
            int at = isRides ? text.ridesFrom : text.costsFrom;
            int end = isRides ? text.ridesTo : text.costsTo;
            // jumps go ahead alone, so that each operation is come to once at most
            for (int i = 0; i < TAPE && at >= 0 && at < end && at < TAPE; i++) {
                int operation = text.code[at] & 63;
                int with = text.code[at] >> 6;
                at++;
                if (operation == THEN) {
                    at = pop() == 0 ? with : at;
                } else if (operation == ELSE) {
                    at = with;
                } else {
                    push(valueOf(world, operation, with));
                }
            }
            return Math.max(0, Math.min(isRides ? MOST_RIDES : MOST_COSTS, pop()));
        }

        private void push(int value) {
            if (top < STACK) {
                stack[top] = Math.max(-MOST_VALUE, Math.min(MOST_VALUE, value));
                top++;
            }
        }

        private int pop() {
            if (top <= 0) {
                return 0;
            }
            top--;
            return stack[top];
        }

        private int valueOf(World world, int operation, int with) {
            if (operation == NUMBER) {
                return with;
            }
            if (operation >= DAY && operation <= BESIDE) {
                return nameOf(world, operation);
            }
            int last = pop();
            switch (operation) {
                case FARE:
                    return world.fareOf(last);
                case SIGN:
                    return signOf(world, last);
                case NEGATE:
                    return -last;
                case NOT:
                    return last == 0 ? 1 : 0;
                default:
                    return joined(operation, pop(), last);
            }
        }

        private int nameOf(World world, int name) {
            switch (name) {
                case DAY:
                    return world.now.day;
                case WHICH:
                    return which;
                case FUND:
                    return world.now.fund;
                case OPEN:
                    return Integer.bitCount(world.openBits());
                case DIFF:
                    return world.fareOf(which);
                case LOW:
                    return Math.min(endSign(world, world.one), endSign(world, world.other));
                case HIGH:
                    return Math.max(endSign(world, world.one), endSign(world, world.other));
                case OLD:
                    return signOf(world, which);
                case NEW:
                    return otherNumber;
                default:
                    return Integer.bitCount(world.besideBits(which));
            }
        }

        private static int signOf(World world, int halt) {
            return halt >= 0 && halt < HALTS ? world.now.numbers[halt] : 0;
        }

        private int endSign(World world, int[] ends) {
            return world.hasLine(which) ? signOf(world, ends[which]) : 0;
        }

        private static int joined(int operation, int a, int b) {
            switch (operation) {
                case PLUS:
                    return a + b;
                case MINUS:
                    return a - b;
                case TIMES:
                    return product(a, b);
                case OVER:
                    return b == 0 ? 0 : a / b;
                default:
                    return holds(operation, a, b) ? 1 : 0;
            }
        }

        private static int product(long a, long b) {
            return (int) Math.max(-MOST_VALUE, Math.min(MOST_VALUE, a * b));
        }

        private static boolean holds(int operation, int a, int b) {
            switch (operation) {
                case LESS:
                    return a < b;
                case AT_MOST:
                    return a <= b;
                case MORE:
                    return a > b;
                case AT_LEAST:
                    return a >= b;
                case LIKE:
                    return a == b;
                case UNLIKE:
                    return a != b;
                case AND:
                    return a != 0 && b != 0;
                default:
                    return a != 0 || b != 0;
            }
        }
    }

    /** The tape, and the reading of it as a TEXT. */
    private static final class Reader {
        private final byte[] bytes = new byte[TAPE];
        int length;
        boolean hasRead;
        int fault;
        int place = NONE;
        private Text into;
        private int law;
        // the TOKEN that is come to
        private int token;
        private int value;
        private int from;
        private int next;

        void take(int four) {
            for (int shift = 24; shift >= 0; shift -= 8) {
                if (length < TAPE) {
                    bytes[length] = (byte) (four >> shift);
                    length++;
                }
            }
        }

        /** Reads the tape, which is empty then: whether it has no FAULT. */
        boolean read(Text text) {
            into = text;
            into.clear();
            hasRead = true;
            fault = 0;
            place = NONE;
            next = 0;
            advance();
            boolean good = true;
            for (int i = 0; i <= TAPE && good && token != LAST; i++) {
                good = clause();
            }
            length = 0;
            return good;
        }

        private boolean wrong(int number) {
            fault = number;
            place = from;
            return false;
        }

        private boolean expect(int wanted) {
            if (token != wanted) {
                return wrong(CANT_STAND);
            }
            advance();
            return true;
        }

        private boolean clause() {
            int kind = token;
            if (!startsClause(kind)) {
                return wrong(CANT_STAND);
            }
            boolean isLaw = kind == RIDES || kind == COSTS;
            if (isLaw && into.has(kind)) {
                return wrong(SECOND_LAW);
            }
            if (into.clauses >= CLAUSES) {
                return wrong(TOO_MANY);
            }
            advance();
            if (!isLaw) {
                return doClause(kind) && expect(STOP);
            }
            law = kind;
            int start = into.length;
            if (!sum(0)) {
                return false;
            }
            into.addLaw(kind, start);
            return expect(STOP);
        }

        private static boolean startsClause(int kind) {
            return kind >= RIDES && kind <= DAY && kind != TO && kind != AT;
        }

        private boolean doClause(int kind) {
            int first = value;
            if (!number(kind)) {
                return false;
            }
            int second = 0;
            if (kind == LAY || kind == PLATE) {
                if (!expect(kind == LAY ? TO : AT)) {
                    return false;
                }
                second = value;
                if (!number(LAY)) {
                    return false;
                }
            }
            into.add(kind, first, second);
            return true;
        }

        /** A NUMBER as such a CLAUSE has it first; a second one is always a HALT, as of lay. */
        private boolean number(int kind) {
            if (token != NUMBER) {
                return wrong(CANT_STAND);
            }
            int least = kind == GRANT || kind == DAY ? 1 : 0;
            if (value < least || value > mostOf(kind)) {
                return wrong(NOT_TOLD);
            }
            advance();
            return true;
        }

        private static int mostOf(int kind) {
            switch (kind) {
                case LAY:
                    return HALTS - 1;
                case PLATE:
                    return MOST_NUMBER;
                case TURN:
                    return LINES - 1;
                case GRANT:
                    return MOST_GRANT;
                default:
                    return MOST_DAYS;
            }
        }

        private boolean sum(int depth) {
            if (!product(depth)) {
                return false;
            }
            for (int i = 0; i <= TAPE && (token == PLUS || token == MINUS); i++) {
                int sign = token;
                advance();
                if (!product(depth)) {
                    return false;
                }
                into.emit(sign, 0);
            }
            return true;
        }

        private boolean product(int depth) {
            if (!one(depth)) {
                return false;
            }
            for (int i = 0; i <= TAPE && (token == TIMES || token == OVER); i++) {
                int sign = token;
                advance();
                if (!one(depth)) {
                    return false;
                }
                into.emit(sign, 0);
            }
            return true;
        }

        private boolean one(int depth) {
            int here = token;
            if (here == NUMBER) {
                if (value > 9999) {
                    return wrong(NOT_TOLD);
                }
                into.emit(here, value);
                advance();
                return true;
            }
            if (here >= DAY && here <= BESIDE) {
                if (!isOfLaw(here)) {
                    return wrong(OTHER_NAME);
                }
                into.emit(here, 0);
                advance();
                return true;
            }
            if (here == OPENING || here == FARE || here == SIGN || here == IF || here == MINUS) {
                return nested(here, depth + 1);
            }
            return wrong(CANT_STAND);
        }

        private boolean isOfLaw(int name) {
            return name <= OPEN || (name <= HIGH) == (law == RIDES);
        }

        private boolean nested(int here, int depth) {
            if (depth > NESTING) {
                return wrong(TOO_DEEP);
            }
            advance();
            if (here == OPENING) {
                return sum(depth) && expect(CLOSING);
            }
            if (here == IF) {
                return choice(depth);
            }
            if (!one(depth)) {
                return false;
            }
            into.emit(here == MINUS ? NEGATE : here, 0);
            return true;
        }

        private boolean choice(int depth) {
            if (!either(depth) || !expect(THEN)) {
                return false;
            }
            int toElse = into.emit(THEN, 0);
            if (!sum(depth) || !expect(ELSE)) {
                return false;
            }
            int toEnd = into.emit(ELSE, 0);
            into.land(toElse);
            if (!sum(depth) || !expect(END)) {
                return false;
            }
            into.land(toEnd);
            return true;
        }

        private boolean either(int depth) {
            if (!both(depth)) {
                return false;
            }
            for (int i = 0; i <= TAPE && token == OR; i++) {
                advance();
                if (!both(depth)) {
                    return false;
                }
                into.emit(OR, 0);
            }
            return true;
        }

        private boolean both(int depth) {
            if (!ask(depth)) {
                return false;
            }
            for (int i = 0; i <= TAPE && token == AND; i++) {
                advance();
                if (!ask(depth)) {
                    return false;
                }
                into.emit(AND, 0);
            }
            return true;
        }

        private boolean ask(int depth) {
            if (token == NOT) {
                return denied(depth + 1);
            }
            if (!sum(depth)) {
                return false;
            }
            int sign = token;
            if (sign < LESS || sign > UNLIKE) {
                return wrong(CANT_STAND);
            }
            advance();
            if (!sum(depth)) {
                return false;
            }
            into.emit(sign, 0);
            return true;
        }

        private boolean denied(int depth) {
            if (depth > NESTING) {
                return wrong(TOO_DEEP);
            }
            advance();
            if (!ask(depth)) {
                return false;
            }
            into.emit(NOT, 0);
            return true;
        }

        /** Comes to the next TOKEN. */
        private void advance() {
            for (int i = next; i < length && (bytes[i] == 32 || bytes[i] == 10); i++) {
                next++;
            }
            from = next;
            if (next >= length) {
                from = length;
                token = LAST;
            } else if (isLetter(bytes[next])) {
                token = word();
            } else if (isDigit(bytes[next])) {
                token = NUMBER;
                value = digits();
            } else {
                token = signToken(bytes[next]);
            }
        }

        private static boolean isLetter(int sign) {
            return sign >= 'a' && sign <= 'z' || sign >= 'A' && sign <= 'Z';
        }

        private static boolean isDigit(int sign) {
            return sign >= '0' && sign <= '9';
        }

        private int word() {
            for (int i = next; i < length && isLetter(bytes[i]); i++) {
                next++;
            }
            int size = next - from;
            for (int word = 0; word < WORD_COUNT && size < WORD_WIDTH; word++) {
                int same = 0;
                for (int i = 0; i < WORD_WIDTH && same == i; i++) {
                    int here = i < size ? bytes[from + i] : ' ';
                    same += WORDS.charAt(word * WORD_WIDTH + i) == here ? 1 : 0;
                }
                if (same == WORD_WIDTH) {
                    return word;
                }
            }
            return STRANGE;
        }

        private int digits() {
            int number = 0;
            for (int i = next; i < length && isDigit(bytes[i]); i++) {
                // beyond 9999 just that it is beyond counts
                number = Math.min(10000, number * 10 + bytes[i] - '0');
                next++;
            }
            return number;
        }

        private int signToken(int sign) {
            next++;
            boolean orLike = next < length && bytes[next] == '=';
            if (orLike && (sign == '<' || sign == '>')) {
                next++;
                return sign == '<' ? AT_MOST : AT_LEAST;
            }
            switch (sign) {
                case '<':
                    return LESS;
                case '>':
                    return MORE;
                case '=':
                    return LIKE;
                case '#':
                    return UNLIKE;
                case '+':
                    return PLUS;
                case '-':
                    return MINUS;
                case '*':
                    return TIMES;
                case '/':
                    return OVER;
                case '(':
                    return OPENING;
                case ')':
                    return CLOSING;
                case ';':
                    return STOP;
                default:
                    return STRANGE;
            }
        }
    }

    /** The OPEN LINES alone, as the searches go by them. */
    private static final class Net {
        final int[] one = new int[LINES];
        final int[] other = new int[LINES];
        /** Of each HALT the HALTS beside it (bits). */
        final int[] beside = new int[HALTS];
        int open;
        int count;
        /** The HALTS that are beside any (bits), and how many they are. */
        int with;
        int stops;
        /** Unlike for unlike OPEN LINES, so that a search knows whether it was made for them. */
        long key;

        void look(World world) {
            open = world.openBits();
            count = Integer.bitCount(open);
            key = 0;
            for (int halt = 0; halt < HALTS; halt++) {
                beside[halt] = 0;
            }
            for (int line = 0; line < LINES; line++) {
                key <<= 6;
                if (isOpen(line)) {
                    one[line] = world.one[line];
                    other[line] = world.other[line];
                    beside[one[line]] |= 1 << other[line];
                    beside[other[line]] |= 1 << one[line];
                    key += 1 + one[line] * HALTS + other[line];
                }
            }
            with = 0;
            for (int halt = 0; halt < HALTS; halt++) {
                if (beside[halt] != 0) {
                    with |= 1 << halt;
                }
            }
            stops = Integer.bitCount(with);
        }

        boolean isOpen(int line) {
            return (open >> line & 1) != 0;
        }

        boolean isBeside(int halt) {
            return (with >> halt & 1) != 0;
        }

        /** What a search tells of a HALT: those beside none are left aside, their NUMBER and place in it is 0. */
        int ofSearch(int[] row, int halt) {
            return isBeside(halt) ? row[halt] : 0;
        }

        /** The HALTS that are come to from one, not going by the line of that number (NONE: by all). */
        private int reached(int halt, int without) {
            int bits = 1 << halt;
            for (int round = 1; round < HALTS; round++) {
                for (int line = 0; line < LINES; line++) {
                    if (isOpen(line) && line != without && (bits >> one[line] & 1) != (bits >> other[line] & 1)) {
                        bits |= 1 << one[line] | 1 << other[line];
                    }
                }
            }
            return bits;
        }

        int countParts() {
            int seen = 0;
            int parts = 0;
            for (int halt = 0; halt < HALTS; halt++) {
                if ((seen >> halt & 1) == 0) {
                    parts++;
                    seen |= reached(halt, NONE);
                }
            }
            return parts;
        }

        int cutBits() {
            int bits = 0;
            for (int line = 0; line < LINES; line++) {
                if (isOpen(line) && (reached(one[line], line) >> other[line] & 1) == 0) {
                    bits |= 1 << line;
                }
            }
            return bits;
        }
    }

    /** Numbers for HALTS, so that the FARES between them are all unlike: WHOLE NUMBERS, SPAN, TO MEND. */
    private static final class Numbering {
        private static final int MOST_MENDED = 20;
        /** Numbers 0, 1, 3, 7, .. 63 always do; a net of ten LINES needs far less. */
        private static final int MOST_SPAN = 63;

        final int[] row = new int[HALTS];
        int greatest;
        private final int[] number = new int[HALTS];
        private long solvedFor = NONE;
        private long countedFor = NONE;
        private long ways;
        private int share;
        private int most;
        private boolean unlike;
        private boolean inOrder;
        private boolean counting;
        /** The numbers that are given yet (bits), where they must be unlike. */
        private long given;
        /** The FARES that are there: up to 63 as bits from 0 up. */
        private long fares;
        /** The same as bits from 63 down. */
        private long mirror;
        /** The FARES above 63 as bits from 63 down. */
        private long above;

        void solve(Net net) {
            if (solvedFor == net.key) {
                return;
            }
            solvedFor = net.key;
            begin(true, false, Math.max(net.count, net.stops - 1));
            greatest = MOST_SPAN;
            for (int i = most; i <= MOST_SPAN; i++) {
                most = i;
                clear();
                if (goOn(net, net.with, 0)) {
                    greatest = i;
                    break;
                }
            }
            // the first row that is found HALT by HALT is the lowest one
            inOrder = true;
            clear();
            goOn(net, net.with, 0);
            System.arraycopy(number, 0, row, 0, HALTS);
        }

        long wholeWays(Net net) {
            if (net.count == 0) {
                return 1;
            }
            if (net.stops - 1 > net.count) {
                return 0;
            }
            if (countedFor != net.key) {
                countedFor = net.key;
                begin(true, true, net.count);
                goOn(net, net.with, 0);
            }
            return ways;
        }

        int mending(Net net, int[] numbers) {
            begin(false, false, MOST_MENDED);
            for (int size = 0; size <= net.stops; size++) {
                for (int set = 0; set <= ALL_HALTS; set++) {
                    boolean counts = (set & ~net.with) == 0 && Integer.bitCount(set) == size;
                    if (counts && mends(net, numbers, set)) {
                        return set;
                    }
                }
            }
            return NONE;
        }

        private boolean mends(Net net, int[] numbers, int set) {
            clear();
            System.arraycopy(numbers, 0, number, 0, HALTS);
            for (int line = 0; line < LINES; line++) {
                if (!net.isOpen(line) || ((set >> net.one[line] | set >> net.other[line]) & 1) != 0) {
                    continue;
                }
                if (!note(Math.abs(number[net.one[line]] - number[net.other[line]]))) {
                    return false;
                }
            }
            return goOn(net, set, net.with & ~set);
        }

        private void begin(boolean mustBeUnlike, boolean mustCount, int top) {
            unlike = mustBeUnlike;
            counting = mustCount;
            inOrder = false;
            most = top;
            ways = mustCount ? 0 : ways;
            clear();
        }

        /** No FARE is there; one of 0 would never do. */
        private void clear() {
            given = 0;
            fares = 1;
            mirror = 1L << 63;
            above = 0;
        }

        /** Gives numbers to the HALTS that are left: whether there is a row (when counting, all are gone by). */
        private boolean goOn(Net net, int left, int set) {
            int halt = nextOf(net, left, set);
            if (halt == NONE) {
                return true;
            }
            long free = fitting(net, halt, set);
            int rest = left & ~(1 << halt);
            if (counting && rest == 0) {
                ways += (long) share * Long.bitCount(free);
                return false;
            }
            // a row turned upside down is one, too: half of them are counted twice
            int top = counting && set == 0 ? most / 2 : most;
            for (int value = 0; value <= top; value++) {
                if ((free >> value & 1) == 0) {
                    continue;
                }
                if (set == 0) {
                    share = value * 2 == most ? 1 : 2;
                }
                if (goOnWith(net, halt, value, rest, set)) {
                    return true;
                }
            }
            return false;
        }

        private boolean goOnWith(Net net, int halt, int value, int rest, int set) {
            long keptFares = fares;
            long keptMirror = mirror;
            long keptAbove = above;
            number[halt] = value;
            given |= 1L << value;
            for (int next = 0; next < HALTS; next++) {
                if ((net.beside[halt] & set & 1 << next) != 0) {
                    note(Math.abs(value - number[next]));
                }
            }
            if (goOn(net, rest, set | 1 << halt)) {
                return true;
            }
            given &= ~(1L << value);
            fares = keptFares;
            mirror = keptMirror;
            above = keptAbove;
            return false;
        }

        /** The lowest HALT that is left, or the one that is bound most, by which fewer rows are gone by; or NONE. */
        private int nextOf(Net net, int left, int set) {
            int best = NONE;
            int strongest = NONE;
            for (int halt = 0; halt < HALTS; halt++) {
                if ((left >> halt & 1) == 0) {
                    continue;
                }
                if (inOrder) {
                    return halt;
                }
                int beside = net.beside[halt];
                int bound = Integer.bitCount(beside & set) * HALTS + Integer.bitCount(beside);
                if (bound > strongest) {
                    strongest = bound;
                    best = halt;
                }
            }
            return best;
        }

        /** The numbers (bits) by which all FARES of a HALT to those set are new and unlike. */
        private long fitting(Net net, int halt, int set) {
            int beside = net.beside[halt] & set;
            long free = unlike ? ~given : -1L;
            for (int a = 0; a < HALTS; a++) {
                if ((beside >> a & 1) == 0) {
                    continue;
                }
                free &= ~spoilt(number[a]);
                for (int b = a + 1; b < HALTS; b++) {
                    if ((beside >> b & 1) != 0) {
                        free &= ~halfWay(number[a], number[b]);
                    }
                }
            }
            return most >= 63 ? free : free & (1L << most + 1) - 1;
        }

        /** The numbers (bits) that would differ from this one by a FARE that is there. */
        private long spoilt(int from) {
            if (from <= 63) {
                return fares << from | mirror >>> 63 - from;
            }
            return above >>> 127 - from | mirror << from - 63;
        }

        /** The numbers (bits) that differ from both by the same. */
        private static long halfWay(int a, int b) {
            if (a == b) {
                return -1L;
            }
            int sum = a + b;
            return (sum & 1) == 0 && sum < 128 ? 1L << sum / 2 : 0;
        }

        /** Puts a FARE to those that are there: whether it is new. */
        private boolean note(int fare) {
            if (fare > 63) {
                long bit = 1L << 127 - fare;
                boolean isNew = (above & bit) == 0;
                above |= bit;
                return isNew;
            }
            boolean isNew = (fares >> fare & 1) == 0;
            fares |= 1L << fare;
            mirror |= 1L << 63 - fare;
            return isNew;
        }
    }

    /** Places for HALTS, any two of them so far from one another at least, and at most: APART, A BAND. */
    private static final class Places {
        private static final int MOST_PLACE = 30;

        final int[] place = new int[HALTS];
        /** What was to be made small. */
        int least;
        private final int[][] atLeast = new int[HALTS][HALTS];
        private final int[][] atMost = new int[HALTS][HALTS];
        private long solvedFor = NONE;
        private int solvedNear;
        private int solvedFar;
        private long useful;

        void space(Net net, int near, int far) {
            if (solvedFor == net.key && solvedNear == near && solvedFar == far) {
                return;
            }
            solvedFor = net.key;
            solvedNear = near;
            solvedFar = far;
            for (int halt = 0; halt < HALTS; halt++) {
                int over = overTwo(net, halt);
                for (int next = 0; next < HALTS; next++) {
                    boolean isBeside = (net.beside[halt] >> next & 1) != 0;
                    atLeast[halt][next] = isBeside ? near : (over >> next & 1) != 0 ? far : 0;
                    atMost[halt][next] = MOST_PLACE;
                }
            }
            long worth = sums(near, far);
            least = MOST_PLACE;
            for (int top = 0; top <= MOST_PLACE; top++) {
                useful = worth & (1L << top + 1) - 1;
                if (goOn(net.with, 0)) {
                    least = top;
                    break;
                }
            }
        }

        private static int overTwo(Net net, int halt) {
            int bits = 0;
            for (int next = 0; next < HALTS; next++) {
                if ((net.beside[halt] >> next & 1) != 0) {
                    bits |= net.beside[next];
                }
            }
            return bits & ~net.beside[halt] & ~(1 << halt);
        }

        /** In the lowest row each number is 0 or just near or far above another one: all that can be, as bits. */
        private static long sums(int near, int far) {
            long bits = 1;
            for (int value = 1; value <= MOST_PLACE; value++) {
                boolean byNear = near > 0 && value >= near && (bits >> value - near & 1) != 0;
                boolean byFar = far > 0 && value >= far && (bits >> value - far & 1) != 0;
                if (byNear || byFar) {
                    bits |= 1L << value;
                }
            }
            return bits;
        }

        void bind(Net net) {
            if (solvedFor == net.key) {
                return;
            }
            solvedFor = net.key;
            useful = (1L << net.stops) - 1;
            least = HALTS;
            for (int band = 0; band < HALTS; band++) {
                for (int halt = 0; halt < HALTS; halt++) {
                    for (int next = 0; next < HALTS; next++) {
                        atLeast[halt][next] = 1;
                        atMost[halt][next] = (net.beside[halt] >> next & 1) != 0 ? band : MOST_PLACE;
                    }
                }
                if (goOn(net.with, 0)) {
                    least = band;
                    break;
                }
            }
        }

        /** Gives places to the HALTS that are left, the lowest first: whether there is a row. */
        private boolean goOn(int left, int set) {
            int halt = 0;
            while (halt < HALTS && (left >> halt & 1) == 0) {
                halt++;
            }
            if (halt >= HALTS) {
                return true;
            }
            long free = fitting(halt, set);
            for (int value = 0; value <= MOST_PLACE; value++) {
                if ((free >> value & 1) != 0 && goOnWith(halt, value, left, set)) {
                    return true;
                }
            }
            return false;
        }

        private boolean goOnWith(int halt, int value, int left, int set) {
            place[halt] = value;
            return goOn(left & ~(1 << halt), set | 1 << halt);
        }

        private long fitting(int halt, int set) {
            long free = useful;
            for (int next = 0; next < HALTS; next++) {
                if ((set >> next & 1) != 0) {
                    free &= around(place[next], atMost[halt][next]) & ~around(place[next], atLeast[halt][next] - 1);
                }
            }
            return free;
        }

        /** The places (bits) that differ from one by so much at most. */
        private static long around(int at, int reach) {
            if (reach < 0) {
                return 0;
            }
            int from = Math.max(0, at - reach);
            int to = Math.min(MOST_PLACE, at + reach);
            return (1L << to - from + 1) - 1 << from;
        }
    }

    /** Weights for OPEN LINES: SUMS ALIKE, SUMS UNLIKE. */
    private static final class Weights {
        final int[] alikeRow = new int[LINES];
        final int[] unlikeRow = new int[LINES];
        int sum;
        long ways;
        boolean canUnlike;
        private final int[] weight = new int[LINES];
        /** Of each HALT what its LINES without a weight must have together, or those with one have. */
        private final int[] together = new int[HALTS];
        /** Of each HALT how many of its LINES have no weight. */
        private final int[] rest = new int[HALTS];
        private int used;
        private long alikeFor = NONE;
        private long unlikeFor = NONE;

        void solveAlike(Net net) {
            if (alikeFor == net.key) {
                return;
            }
            alikeFor = net.key;
            ways = 0;
            int all = net.count * (net.count + 1);
            if (net.stops == 0) {
                sum = 0;
                ways = 1;
            } else if (all % net.stops == 0) {
                // each weight counts at two HALTS
                sum = all / net.stops;
                begin(net, sum);
                goAlike(net, net.open);
            }
        }

        private void begin(Net net, int each) {
            used = 0;
            for (int halt = 0; halt < HALTS; halt++) {
                together[halt] = each;
                rest[halt] = Integer.bitCount(net.beside[halt]);
            }
        }

        private void goAlike(Net net, int left) {
            int line = tightest(net, left);
            if (line == NONE) {
                ways++;
                keepLowest(net);
                return;
            }
            int a = net.one[line];
            int b = net.other[line];
            int from = 1;
            int to = net.count;
            if (rest[a] == 1 || rest[b] == 1) {
                from = Math.max(1, rest[a] == 1 ? together[a] : together[b]);
                to = Math.min(to, from);
            }
            for (int value = from; value <= to; value++) {
                if ((used >> value & 1) == 0) {
                    goAlikeWith(net, left, line, value);
                }
            }
        }

        private void goAlikeWith(Net net, int left, int line, int value) {
            int a = net.one[line];
            int b = net.other[line];
            put(line, a, b, value, -1);
            if (canBe(net, a) && canBe(net, b)) {
                goAlike(net, left & ~(1 << line));
            }
            takeOff(a, b, value, -1);
        }

        private void put(int line, int a, int b, int value, int sign) {
            weight[line] = value;
            used |= 1 << value;
            together[a] += value * sign;
            together[b] += value * sign;
            rest[a]--;
            rest[b]--;
        }

        private void takeOff(int a, int b, int value, int sign) {
            used &= ~(1 << value);
            together[a] -= value * sign;
            together[b] -= value * sign;
            rest[a]++;
            rest[b]++;
        }

        /** Whether the weights that are left may still make up what a HALT lacks. */
        private boolean canBe(Net net, int halt) {
            int lines = rest[halt];
            int lack = together[halt];
            if (lines == 1) {
                return lack >= 1 && lack <= net.count && (used >> lack & 1) == 0;
            }
            return lack >= lines * (lines + 1) / 2 && lack <= lines * (2 * net.count - lines + 1) / 2;
        }

        /** A LINE without a weight at the HALT that has fewest of them, or NONE. */
        private int tightest(Net net, int left) {
            int best = NONE;
            int fewest = LINES + 1;
            for (int line = 0; line < LINES; line++) {
                if ((left >> line & 1) != 0) {
                    int lines = Math.min(rest[net.one[line]], rest[net.other[line]]);
                    if (lines < fewest) {
                        fewest = lines;
                        best = line;
                    }
                }
            }
            return best;
        }

        private void keepLowest(Net net) {
            if (ways > 1 && !isLower(net)) {
                return;
            }
            System.arraycopy(weight, 0, alikeRow, 0, LINES);
        }

        private boolean isLower(Net net) {
            for (int line = 0; line < LINES; line++) {
                if (net.isOpen(line) && weight[line] != alikeRow[line]) {
                    return weight[line] < alikeRow[line];
                }
            }
            return false;
        }

        void solveUnlike(Net net) {
            if (unlikeFor == net.key) {
                return;
            }
            unlikeFor = net.key;
            begin(net, 0);
            canUnlike = !hasLone(net) && goUnlike(net, 0);
            System.arraycopy(weight, 0, unlikeRow, 0, LINES);
        }

        /** Whether a LINE is the only one at both its HALTS, whose sums are alike by any weights then. */
        private boolean hasLone(Net net) {
            for (int line = 0; line < LINES; line++) {
                if (net.isOpen(line) && rest[net.one[line]] == 1 && rest[net.other[line]] == 1) {
                    return true;
                }
            }
            return false;
        }

        private boolean goUnlike(Net net, int from) {
            int line = from;
            while (line < LINES && !net.isOpen(line)) {
                line++;
            }
            if (line >= LINES) {
                return true;
            }
            for (int value = 1; value <= net.count; value++) {
                if ((used >> value & 1) == 0 && goUnlikeWith(net, line, value)) {
                    return true;
                }
            }
            return false;
        }

        private boolean goUnlikeWith(Net net, int line, int value) {
            int a = net.one[line];
            int b = net.other[line];
            put(line, a, b, value, 1);
            if (!isMet(net, a) && !isMet(net, b) && goUnlike(net, line + 1)) {
                return true;
            }
            takeOff(a, b, value, 1);
            return false;
        }

        /** Whether the sum of a HALT whose LINES all have weights is there at another such HALT. */
        private boolean isMet(Net net, int halt) {
            if (rest[halt] > 0) {
                return false;
            }
            for (int next = 0; next < HALTS; next++) {
                boolean isDone = next != halt && net.isBeside(next) && rest[next] == 0;
                if (isDone && together[next] == together[halt]) {
                    return true;
                }
            }
            return false;
        }
    }

    /** ALL FARES, NAMES, A GAME and A RIDE. */
    private static final class Walks {
        private static final int NO_WAY = 1000000;
        /** Of a ride, FARES count this much and LINES one each: a ride has six LINES at most. */
        private static final int FARE_WORTH = 8;

        private final int[] ofSets = new int[ALL_HALTS + 1];
        private final int[] worth = new int[HALTS];
        private final int[] swapped = new int[HALTS];

        /**
         * The least that FARES by places can be together: as HALTS get places one behind the other, each
         * LINE from those that have one to those that have none grows by one.
         */
        int leastFares(Net net) {
            ofSets[0] = 0;
            for (int set = 1; set <= ALL_HALTS; set++) {
                int least = NO_WAY;
                int crossing = 0;
                for (int halt = 0; halt < HALTS; halt++) {
                    if ((set >> halt & 1) != 0) {
                        least = Math.min(least, ofSets[set & ~(1 << halt)]);
                        crossing += Integer.bitCount(net.beside[halt] & ~set);
                    }
                }
                ofSets[set] = least + crossing;
            }
            return ofSets[ALL_HALTS];
        }

        int swaps(Net net) {
            int ways = swapsFrom(net, 0, 0);
            // those that are beside none change places as they like
            for (int i = 2; i <= HALTS - net.stops; i++) {
                ways *= i;
            }
            return ways;
        }

        /** In how many ways the HALTS from one on that are beside any can change places. */
        private int swapsFrom(Net net, int from, int taken) {
            int halt = from;
            while (halt < HALTS && !net.isBeside(halt)) {
                halt++;
            }
            if (halt >= HALTS) {
                return 1;
            }
            int ways = 0;
            for (int to = 0; to < HALTS; to++) {
                if ((taken >> to & 1) == 0 && net.isBeside(to) && keepsBeside(net, halt, to)) {
                    ways += swapsWith(net, halt, to, taken);
                }
            }
            return ways;
        }

        private int swapsWith(Net net, int halt, int to, int taken) {
            swapped[halt] = to;
            return swapsFrom(net, halt + 1, taken | 1 << to);
        }

        private boolean keepsBeside(Net net, int halt, int to) {
            if (Integer.bitCount(net.beside[halt]) != Integer.bitCount(net.beside[to])) {
                return false;
            }
            for (int done = 0; done < halt; done++) {
                boolean was = (net.beside[halt] >> done & 1) != 0;
                if (net.isBeside(done) && was != ((net.beside[to] >> swapped[done] & 1) != 0)) {
                    return false;
                }
            }
            return true;
        }

        /** The lowest HALT by whose mark the one who begins wins, or NONE. */
        int winner(Net net, int marked) {
            for (int set = ALL_HALTS; set >= marked; set--) {
                ofSets[set] = NONE;
                for (int halt = HALTS - 1; halt >= 0; halt--) {
                    boolean isFree = (set >> halt & 1) == 0 && (net.beside[halt] & set) == 0;
                    if (isFree && ofSets[set | 1 << halt] == NONE) {
                        ofSets[set] = halt;
                    }
                }
            }
            return ofSets[marked];
        }

        int rideFares(Net net, int[] numbers, int a, int b) {
            reckon(net, numbers, b);
            return worth[a] >= NO_WAY ? NONE : worth[a] / FARE_WORTH;
        }

        int rideHalt(Net net, int[] numbers, int a, int b, int i) {
            reckon(net, numbers, b);
            if (worth[a] >= NO_WAY) {
                return OTHERS;
            }
            int halt = a;
            for (int k = 0; k < i; k++) {
                if (halt == b) {
                    return OTHERS;
                }
                halt = nextHalt(net, numbers, halt);
            }
            return halt;
        }

        /** What a ride from each HALT to that one is worth. */
        private void reckon(Net net, int[] numbers, int to) {
            for (int halt = 0; halt < HALTS; halt++) {
                worth[halt] = halt == to ? 0 : NO_WAY;
            }
            for (int round = 1; round < HALTS; round++) {
                for (int line = 0; line < LINES; line++) {
                    if (net.isOpen(line)) {
                        int a = net.one[line];
                        int b = net.other[line];
                        int step = stepWorth(numbers, a, b);
                        worth[a] = Math.min(worth[a], worth[b] + step);
                        worth[b] = Math.min(worth[b], worth[a] + step);
                    }
                }
            }
        }

        private static int stepWorth(int[] numbers, int a, int b) {
            return Math.abs(numbers[a] - numbers[b]) * FARE_WORTH + 1;
        }

        private int nextHalt(Net net, int[] numbers, int halt) {
            for (int next = 0; next < HALTS; next++) {
                boolean isBeside = (net.beside[halt] >> next & 1) != 0;
                if (isBeside && worth[next] + stepWorth(numbers, halt, next) == worth[halt]) {
                    return next;
                }
            }
            return halt;
        }
    }
}
