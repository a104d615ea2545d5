import java.util.Arrays;

/** Dyes, grounds, lamps and eyes over bands of light: which mixes look alike, and by which lamp they part. */
public final class DyeLamps {
    public static final int NONE = -1;

    private static final int SPENT = -2;
    private static final int NO_SUCH = -2;
    private static final int MAX_TEXT = 1700;
    private static final int MAX_BANDS = 16;
    private static final int MAX_DYES = 8;
    private static final int MAX_GROUNDS = 4;
    private static final int MAX_LAMPS = 6;
    private static final int MAX_EYES = 4;
    private static final int MAX_GOODS = 8;
    private static final int MAX_PARTS = 24;
    private static final int MAX_OLDS = MAX_GOODS * (MAX_DYES + 1);
    private static final int MAX_LOOKS = 40;
    private static final int MAX_MUCH = 9999999;
    private static final int MAX_SOME = 9999;
    private static final int MAX_MIXES = 100000;
    private static final int MAX_BEST_MIXES = 5000;
    private static final int MAX_TIME = 100000;
    private static final int MAX_STEP = 1000;
    private static final int BOXES = 3;
    private static final int FULL_WEIGHT = 10;

    private final Tape tape;
    private final Parser parser;
    private Bench bench;
    private Bench spare;
    private final Olds olds;
    private final Looks looks;
    private final Search search;
    private final Vat vat;
    private final Vat[] boxes;
    private final int[] vatRow;
    private final int[] weights;
    private boolean weightsLie;
    private int time;

    public DyeLamps() {
        tape = new Tape();
        bench = new Bench();
        spare = new Bench();
        parser = new Parser(spare);
        olds = new Olds();
        looks = new Looks();
        search = new Search(bench, olds);
        vat = new Vat();
        boxes = new Vat[BOXES];
        for (int box = 0; box < BOXES; box++) {
            boxes[box] = new Vat();
        }
        vatRow = new int[MAX_BANDS];
        weights = new int[MAX_LAMPS];
        weightsLie = false;
        time = 0;
    }

    // ---- the text

    public int feed(int a, int b, int c, int d, int e) {
        if (!tape.hasRoom(20)) {
            return NONE;
        }
        tape.put(a);
        tape.put(b);
        tape.put(c);
        tape.put(d);
        tape.put(e);
        return tape.length;
    }

    public int end(int n) {
        if (n < 0 || n > tape.length) {
            return NONE;
        }
        tape.length = n;
        return n;
    }

    public int bench() {
        boolean good = parser.read(tape, spare);
        // The TAPE is used up by a faulty text too; only what stands on the bench stays then.
        tape.length = 0;
        if (!good) {
            return NONE;
        }
        Bench before = bench;
        bench = spare;
        spare = before;
        startAnew();
        return bench.goods.count;
    }

    public int fault(int what) {
        switch (what) {
            case 0:
                return parser.fault;
            case 1:
                return parser.place;
            default:
                return NONE;
        }
    }

    private void startAnew() {
        olds.fill(bench);
        looks.count = 0;
        search.forget(bench);
        vat.putOn(0);
        for (int box = 0; box < BOXES; box++) {
            boxes[box].kept = false;
        }
        weightsLie = false;
    }

    // ---- what is seen

    public int throwsBack(int good, int band) {
        int[] row = rowOf(good);
        return row == null || band < 0 || band >= bench.bands ? NONE : row[band];
    }

    public long seen(int good, int lamp, int eye) {
        int[] row = rowOf(good);
        if (row == null || !bench.lamps.has(lamp) || !bench.eyes.has(eye)) {
            return NONE;
        }
        return bench.seenOf(row, lamp, eye);
    }

    public long apart(int a, int b, int lamp, boolean odd) {
        int[] first = rowOf(a);
        int[] second = rowOf(b);
        if (first == null || second == null || !bench.lamps.has(lamp)) {
            return NONE;
        }
        return bench.apartOf(first, second, lamp, odd);
    }

    public int alike(int a, int b, boolean odd) {
        int[] first = rowOf(a);
        int[] second = rowOf(b);
        if (first == null || second == null) {
            return NONE;
        }
        int bits = 0;
        for (int lamp = 0; lamp < bench.lamps.count; lamp++) {
            if (bench.areAlike(first, second, lamp, odd)) {
                bits |= 1 << lamp;
            }
        }
        return bits;
    }

    /** Costs need no light, so the VAT has one without grounds too. */
    public int cost(int good) {
        if (good == NONE) {
            return bench.priceOf(vat.parts);
        }
        return bench.goods.has(good) ? bench.priceOf(bench.goods.rows[good]) : NO_SUCH;
    }

    /** A VAT without a ground throws nothing back, so it can't be looked at. */
    private boolean canBeLookedAt(int good) {
        return good == NONE ? bench.grounds.count > 0 : bench.goods.has(good);
    }

    /** What a GOOD (NONE: the VAT) throws back of all bands; null if it can't be. */
    private int[] rowOf(int good) {
        if (!canBeLookedAt(good)) {
            return null;
        }
        if (good != NONE) {
            return olds.rows[good];
        }
        bench.throwBack(vat.ground, vat.parts, vatRow);
        return vatRow;
    }

    // ---- what is asked of

    public boolean ask(int good, int ground, int m, int u) {
        if (!bench.goods.has(good) || !bench.grounds.has(ground)) {
            return false;
        }
        if (m < 0 || m > bench.most || u < 0 || u > MAX_DYES) {
            return false;
        }
        search.take(good, ground, m, u);
        return true;
    }

    public int mixes() {
        return search.asked ? search.count : NONE;
    }

    public int match(int lamps, boolean odd) {
        return search.findMatch(lamps, odd);
    }

    public long nearest(int lamps, boolean odd) {
        return search.findNearest(lamps, odd);
    }

    public int best(int lamps, boolean odd) {
        return search.findBest(lamps, odd);
    }

    public int pick(int i) {
        if (i < 0 || i >= search.bests) {
            return NONE;
        }
        search.layBest(i);
        return bench.priceOf(search.lying);
    }

    public long trick(int day, int night, boolean odd) {
        return search.findTrick(day, night, odd);
    }

    public int parts(int dye) {
        return search.lies && bench.dyes.has(dye) ? search.lying[dye] : NONE;
    }

    // ---- the lamp that betrays

    public long betray(int a, int b, boolean odd) {
        int[] first = rowOf(a);
        int[] second = rowOf(b);
        int count = bench.lamps.count;
        if (first == null || second == null || count == 0) {
            return NONE;
        }
        // A mixed lamp never parts by more than its lamps do by their weights, so all the weight on a
        // farthest lamp is farthest; and no row that comes ahead of the last such lamp's can reach it.
        long farthest = bench.farthestOf(first, second, odd);
        int last = 0;
        for (int i = 0; i < count; i++) {
            if (bench.apartOf(first, second, i, odd) == farthest) {
                last = i;
            }
        }
        Arrays.fill(weights, 0);
        weights[last] = FULL_WEIGHT;
        weightsLie = true;
        return farthest * FULL_WEIGHT;
    }

    public int weight(int lamp) {
        return weightsLie && bench.lamps.has(lamp) ? weights[lamp] : NONE;
    }

    public int lamp(int a, int b, boolean odd) {
        int[] first = rowOf(a);
        int[] second = rowOf(b);
        if (first == null || second == null) {
            return NONE;
        }
        long farthest = bench.farthestOf(first, second, odd);
        for (int i = 0; i < bench.lamps.count; i++) {
            if (bench.apartOf(first, second, i, odd) == farthest) {
                return i;
            }
        }
        return NONE;
    }

    // ---- the vat

    public boolean set(int ground) {
        if (!bench.grounds.has(ground)) {
            return false;
        }
        vat.putOn(ground);
        return true;
    }

    public int drop(int dye, int parts) {
        if (!bench.dyes.has(dye) || bench.grounds.count == 0 || parts < 1 || parts > MAX_PARTS) {
            return NONE;
        }
        if (vat.total() + parts > bench.most) {
            return NONE;
        }
        vat.parts[dye] += parts;
        // The hand draws even where a slip would find no room.
        boolean slips = bench.slip != 0 && vat.drawOfTen() < bench.slip;
        if (!slips || vat.total() >= bench.most) {
            return parts;
        }
        vat.parts[dye]++;
        return parts + 1;
    }

    public int days(int days) {
        if (days < 0 || days > MAX_STEP) {
            return NONE;
        }
        int gone = 0;
        for (int day = 0; day < days; day++) {
            gone += vat.fadeOneDay(bench);
        }
        return gone;
    }

    public int vat(int dye) {
        return bench.dyes.has(dye) ? vat.parts[dye] : NONE;
    }

    public int seed(int w) {
        int before = vat.w;
        vat.w = w;
        return before;
    }

    public int image(int box) {
        if (box < 0 || box >= BOXES) {
            return NONE;
        }
        boxes[box].copyOf(vat);
        boxes[box].kept = true;
        return vat.total();
    }

    public int back(int box) {
        if (box < 0 || box >= BOXES || !boxes[box].kept) {
            return NONE;
        }
        vat.copyOf(boxes[box]);
        return vat.total();
    }

    // ---- old recipes

    public int old() {
        return olds.count;
    }

    public int oldOne(int old, int what) {
        if (old < 0 || old >= olds.count) {
            return NO_SUCH;
        }
        switch (what) {
            case 0:
                return olds.goods[old];
            case 1:
                return olds.leftOut[old];
            default:
                return NO_SUCH;
        }
    }

    public int look(int lamp, int eye, int much, int some) {
        if (!bench.lamps.has(lamp) || !bench.eyes.has(eye) || looks.isFull()) {
            return NONE;
        }
        if (much < 0 || much > MAX_MUCH || some < 0 || some > MAX_SOME) {
            return NONE;
        }
        return looks.tell(lamp, eye, much, some, time);
    }

    public boolean untell(int look) {
        return looks.takeBack(look, time);
    }

    public int later(int by) {
        if (by < 0 || by > MAX_STEP || time + by > MAX_TIME) {
            return NONE;
        }
        time += by;
        return time;
    }

    public int agree(int k) {
        return looks.choose(bench, olds, k);
    }

    public int agrees(int i, int k) {
        int count = looks.choose(bench, olds, k);
        return i < 0 || i >= count ? NONE : looks.chosen[i];
    }

    public int next(int what, int k) {
        if (what < 0 || what > 2 || looks.choose(bench, olds, k) == 0) {
            return NONE;
        }
        if (bench.lamps.count == 0 || bench.eyes.count == 0) {
            return NONE;
        }
        looks.findNext(bench, olds);
        switch (what) {
            case 0:
                return looks.nextLamp;
            case 1:
                return looks.nextEye;
            default:
                return looks.nextCrowd;
        }
    }

    public int about(int what) {
        switch (what) {
            case 0:
                return bench.bands;
            case 1:
                return bench.dyes.count;
            case 2:
                return bench.grounds.count;
            case 3:
                return bench.lamps.count;
            case 4:
                return bench.eyes.count;
            case 5:
                return bench.goods.count;
            case 6:
                return looks.count;
            case 7:
                return time;
            case 8:
                return tape.length;
            case 9:
                return vat.w;
            case 10:
                return vat.days;
            case 11:
                return vat.ground;
            default:
                return NONE;
        }
    }

    /** The bytes that have been fed and not been read yet. */
    private static final class Tape {
        private final byte[] bytes;
        int length;

        Tape() {
            bytes = new byte[MAX_TEXT];
            length = 0;
        }

        boolean hasRoom(int more) {
            return length + more <= MAX_TEXT;
        }

        void put(int number) {
            for (int shift = 24; shift >= 0; shift -= 8) {
                if (length < MAX_TEXT) {
                    bytes[length] = (byte) (number >>> shift);
                    length++;
                }
            }
        }

        /** Behind the end there is a sign that is no part of any token. */
        int signAt(int place) {
            return place >= 0 && place < length ? bytes[place] : 0;
        }
    }

    /** A text as a row of tokens, up to its end or to the first place where there is none. */
    private static final class Tokens {
        static final int END = 0;
        static final int NO_TOKEN = 1;
        static final int NUMBER = 2;
        static final int SIGN = 3;
        static final int NAME = 4;
        // Each word that stands for itself is a kind of its own; they are spelt in this order below.
        static final int BANDS = 5;
        static final int DYE = 6;
        static final int GROUND = 7;
        static final int LAMP = 8;
        static final int EYE = 9;
        static final int GOOD = 10;
        static final int MOST = 11;
        static final int ALIKE = 12;
        static final int OVER = 13;
        static final int SLIP = 14;
        static final int PRICE = 15;
        static final int FAST = 16;
        static final int OF = 17;
        static final int ON = 18;

        private static final int MAX_TOKENS = MAX_TEXT + 1;
        private static final int LONGEST_WORD = 8;
        private static final int LONGEST_NUMBER = 4;

        private final long[] words;
        final int[] kinds;
        final int[] places;
        final long[] values;
        int count;
        private int stop;

        Tokens() {
            words = new long[] {pack("bands"), pack("dye"), pack("ground"), pack("lamp"), pack("eye"),
                pack("good"), pack("most"), pack("alike"), pack("over"), pack("slip"),
                pack("price"), pack("fast"), pack("of"), pack("on")};
            kinds = new int[MAX_TOKENS];
            places = new int[MAX_TOKENS];
            values = new long[MAX_TOKENS];
            count = 0;
        }

        /** Eight letters of five bits fit into one number, so names need no texts of their own. */
        private static long pack(String word) {
            long packed = 0;
            for (int i = 0; i < word.length(); i++) {
                packed = addLetter(packed, word.charAt(i));
            }
            return packed;
        }

        private static long addLetter(long packed, int letter) {
            return (packed << 5) | (letter - 'a' + 1);
        }

        private static boolean isLetter(int sign) {
            return sign >= 'a' && sign <= 'z';
        }

        private static boolean isDigit(int sign) {
            return sign >= '0' && sign <= '9';
        }

        private static boolean isBlank(int sign) {
            return sign == 32 || sign == 10;
        }

        void scan(Tape tape) {
            count = 0;
            stop = 0;
            int kind = SIGN;
            for (int i = 0; i < MAX_TOKENS && kind != END && kind != NO_TOKEN; i++) {
                while (stop < tape.length && isBlank(tape.signAt(stop))) {
                    stop++;
                }
                places[i] = stop;
                kind = readToken(tape, i);
                kinds[i] = kind;
                count++;
            }
        }

        private int readToken(Tape tape, int i) {
            int sign = tape.signAt(stop);
            if (stop >= tape.length) {
                return END;
            }
            if (isLetter(sign)) {
                return readWord(tape, i);
            }
            if (isDigit(sign)) {
                return readNumber(tape, i);
            }
            stop++;
            return sign == ';' ? SIGN : NO_TOKEN;
        }

        private int readWord(Tape tape, int i) {
            int start = stop;
            long packed = 0;
            while (stop < tape.length && isLetter(tape.signAt(stop))) {
                packed = addLetter(packed, tape.signAt(stop));
                stop++;
            }
            values[i] = packed;
            return stop - start <= LONGEST_WORD ? kindOf(packed) : NO_TOKEN;
        }

        private int kindOf(long packed) {
            for (int i = 0; i < words.length; i++) {
                if (words[i] == packed) {
                    return BANDS + i;
                }
            }
            return NAME;
        }

        private int readNumber(Tape tape, int i) {
            int start = stop;
            long number = 0;
            while (stop < tape.length && isDigit(tape.signAt(stop))) {
                number = number * 10 + (tape.signAt(stop) - '0');
                stop++;
            }
            values[i] = number;
            boolean fits = stop - start <= LONGEST_NUMBER && !isLetter(tape.signAt(stop));
            return fits ? NUMBER : NO_TOKEN;
        }
    }

    /** Puts a text onto a bench, or tells its first fault. */
    private static final class Parser {
        private static final int BAD_TOKEN = 1;
        private static final int MISPLACED = 2;
        private static final int NAME_TAKEN = 3;
        private static final int BAD_NUMBER = 4;
        private static final int NO_GROUND = 5;

        private final Tokens tokens;
        private Bench bench;
        private int at;
        private int kind;
        private long value;
        private int told;
        private int number;
        int fault;
        int place;

        Parser(Bench first) {
            bench = first;
            tokens = new Tokens();
            fault = 0;
            place = NONE;
        }

        boolean read(Tape tape, Bench target) {
            bench = target;
            bench.clear();
            tokens.scan(tape);
            moveTo(0);
            told = 0;
            fault = 0;
            place = NONE;
            for (int lines = 0; lines <= MAX_TEXT && fault == 0 && kind != Tokens.END; lines++) {
                readLine();
            }
            if (fault == 0) {
                bench.mixLight();
            }
            return fault == 0;
        }

        /** All the readers below answer whether the text can go on. */
        private boolean readLine() {
            switch (kind) {
                case Tokens.BANDS:
                    return readBands();
                case Tokens.MOST:
                    return readMost();
                case Tokens.ALIKE:
                    return readAlike();
                case Tokens.SLIP:
                    return readSlip();
                case Tokens.OVER:
                    return readOver();
                case Tokens.DYE:
                    return readDye();
                case Tokens.GROUND:
                    return readThing(bench.grounds, 99);
                case Tokens.LAMP:
                    return readThing(bench.lamps, 99);
                case Tokens.EYE:
                    return readThing(bench.eyes, 9);
                case Tokens.GOOD:
                    return readGood();
                default:
                    return refuse(MISPLACED);
            }
        }

        private boolean readBands() {
            boolean late = bench.dyes.count + bench.grounds.count + bench.lamps.count + bench.eyes.count > 0;
            if (late || !openOnce() || !takeNumber(1, MAX_BANDS)) {
                return refuse(MISPLACED);
            }
            bench.bands = number;
            return take(Tokens.SIGN);
        }

        private boolean readMost() {
            if (bench.goods.count > 0 || !openOnce() || !takeNumber(1, MAX_PARTS)) {
                return refuse(MISPLACED);
            }
            bench.most = number;
            return take(Tokens.SIGN);
        }

        private boolean readAlike() {
            if (!openOnce() || !takeNumber(0, 9999)) {
                return false;
            }
            bench.alike = number;
            return take(Tokens.SIGN);
        }

        private boolean readSlip() {
            if (!openOnce() || !takeNumber(0, 9)) {
                return false;
            }
            bench.slip = number;
            return take(Tokens.SIGN);
        }

        private boolean readOver() {
            if (!openOnce()) {
                return false;
            }
            bench.over = true;
            return take(Tokens.SIGN);
        }

        private boolean readDye() {
            int dye = bench.dyes.count;
            if (bench.goods.count > 0 || !openThing(bench.dyes)) {
                return refuse(MISPLACED);
            }
            if (!take(Tokens.PRICE) || !takeNumber(0, 99)) {
                return false;
            }
            bench.prices[dye] = number;
            if (!take(Tokens.FAST) || !takeNumber(0, 99)) {
                return false;
            }
            bench.fasts[dye] = number;
            return takeRow(bench.dyes, 99);
        }

        private boolean readThing(Shelf shelf, int greatest) {
            return openThing(shelf) && takeRow(shelf, greatest);
        }

        private boolean readGood() {
            int good = bench.goods.count;
            if (bench.dyes.count == 0 || !openThing(bench.goods)) {
                return refuse(MISPLACED);
            }
            if (!take(Tokens.ON) || !takeGround(good) || !take(Tokens.OF)) {
                return false;
            }
            int left = bench.most;
            for (int dye = 0; dye < bench.dyes.count; dye++) {
                if (!takeNumber(0, left)) {
                    return false;
                }
                bench.goods.rows[good][dye] = number;
                left -= number;
            }
            bench.goods.count++;
            return take(Tokens.SIGN);
        }

        private boolean takeGround(int good) {
            int ground = bench.grounds.find(value);
            if (kind == Tokens.NAME && ground == NONE) {
                return refuse(NO_GROUND);
            }
            bench.goodGrounds[good] = ground;
            return take(Tokens.NAME);
        }

        /** Goes past the first word of a line that can be told but once. */
        private boolean openOnce() {
            int bit = 1 << kind;
            if ((told & bit) != 0) {
                return refuse(MISPLACED);
            }
            told |= bit;
            moveTo(at + 1);
            return true;
        }

        /** Goes past the first word and the name of a line that tells one thing more. */
        private boolean openThing(Shelf shelf) {
            if (shelf.isFull()) {
                return refuse(MISPLACED);
            }
            moveTo(at + 1);
            if (kind == Tokens.NAME && shelf.find(value) != NONE) {
                return refuse(NAME_TAKEN);
            }
            shelf.names[shelf.count] = value;
            return take(Tokens.NAME);
        }

        private boolean takeRow(Shelf shelf, int greatest) {
            if (!take(Tokens.OF)) {
                return false;
            }
            for (int band = 0; band < bench.bands; band++) {
                if (!takeNumber(0, greatest)) {
                    return false;
                }
                shelf.rows[shelf.count][band] = number;
            }
            shelf.count++;
            return take(Tokens.SIGN);
        }

        private boolean takeNumber(int least, int greatest) {
            if (kind != Tokens.NUMBER) {
                return refuse(MISPLACED);
            }
            if (value < least || value > greatest) {
                return refuse(BAD_NUMBER);
            }
            number = (int) value;
            moveTo(at + 1);
            return true;
        }

        private boolean take(int wanted) {
            if (kind != wanted) {
                return refuse(MISPLACED);
            }
            moveTo(at + 1);
            return true;
        }

        /** A row of tokens ends with one that is never gone past: the end, or no token. */
        private void moveTo(int token) {
            if (token >= 0 && token < tokens.count) {
                at = token;
                kind = tokens.kinds[at];
                value = tokens.values[at];
            }
        }

        /** The first refusal stays: places only grow while the text is read. */
        private boolean refuse(int reason) {
            if (fault == 0) {
                fault = kind == Tokens.NO_TOKEN ? BAD_TOKEN : reason;
                place = tokens.places[at];
            }
            return false;
        }
    }

    /** Things of one sort, numbered as told. */
    private static final class Shelf {
        private final int limit;
        final long[] names;
        final int[][] rows;
        int count;

        Shelf(int limit, int width) {
            this.limit = limit;
            names = new long[limit];
            rows = new int[limit][width];
            count = 0;
        }

        boolean has(int i) {
            return i >= 0 && i < count;
        }

        boolean isFull() {
            return count >= limit;
        }

        int find(long name) {
            for (int i = 0; i < count; i++) {
                if (names[i] == name) {
                    return i;
                }
            }
            return NONE;
        }
    }

    /** What a text has told, and how mixes of it are seen. */
    private static final class Bench {
        final Shelf dyes;
        final Shelf grounds;
        final Shelf lamps;
        final Shelf eyes;
        final Shelf goods;
        final int[] prices;
        final int[] fasts;
        final int[] goodGrounds;
        private final int[][] light;
        int bands;
        int most;
        int alike;
        int slip;
        boolean over;

        Bench() {
            dyes = new Shelf(MAX_DYES, MAX_BANDS);
            grounds = new Shelf(MAX_GROUNDS, MAX_BANDS);
            lamps = new Shelf(MAX_LAMPS, MAX_BANDS);
            eyes = new Shelf(MAX_EYES, MAX_BANDS);
            goods = new Shelf(MAX_GOODS, MAX_DYES);
            prices = new int[MAX_DYES];
            fasts = new int[MAX_DYES];
            goodGrounds = new int[MAX_GOODS];
            light = new int[MAX_LAMPS * MAX_EYES][MAX_BANDS];
            clear();
        }

        void clear() {
            dyes.count = 0;
            grounds.count = 0;
            lamps.count = 0;
            eyes.count = 0;
            goods.count = 0;
            bands = 4;
            most = 12;
            alike = 10;
            slip = 0;
            over = false;
        }

        /** Each lamp's light as each eye takes it is asked for again and again: it is worked out once. */
        void mixLight() {
            for (int lamp = 0; lamp < lamps.count; lamp++) {
                for (int eye = 0; eye < eyes.count; eye++) {
                    int[] row = light[lamp * MAX_EYES + eye];
                    for (int band = 0; band < bands; band++) {
                        row[band] = lamps.rows[lamp][band] * eyes.rows[eye][band];
                    }
                }
            }
        }

        /** A bare ground, as addPart goes on from it. */
        void layGround(int ground, int[] layer) {
            int scale = over ? 1000 : most;
            for (int band = 0; band < bands; band++) {
                layer[band] = grounds.rows[ground][band] * scale;
            }
        }

        /** One part more of a dye: it lies over all that is there, or takes a share from the ground. */
        void addPart(int ground, int dye, int[] from, int[] into) {
            int[] colour = dyes.rows[dye];
            int[] bare = grounds.rows[ground];
            for (int band = 0; band < bands; band++) {
                into[band] = over ? from[band] * colour[band] / 100 : from[band] + colour[band] - bare[band];
            }
        }

        /** What a layer throws back. */
        void settle(int[] layer, int[] row) {
            int divisor = over ? 1 : most;
            int scale = over ? 1 : 1000;
            if (divisor < 1) {
                return;
            }
            for (int band = 0; band < bands; band++) {
                row[band] = layer[band] * scale / divisor;
            }
        }

        void throwBack(int ground, int[] parts, int[] row) {
            layGround(ground, row);
            for (int dye = 0; dye < dyes.count; dye++) {
                for (int part = 0; part < parts[dye]; part++) {
                    addPart(ground, dye, row, row);
                }
            }
            settle(row, row);
        }

        long seenOf(int[] row, int lamp, int eye) {
            int[] taken = light[lamp * MAX_EYES + eye];
            long sum = 0;
            for (int band = 0; band < bands; band++) {
                sum += (long) row[band] * taken[band];
            }
            return sum;
        }

        long apartOf(int[] a, int[] b, int lamp, boolean odd) {
            int unused = odd ? 2 : 3;
            long farthest = 0;
            for (int eye = 0; eye < eyes.count; eye++) {
                if (eye != unused) {
                    int[] taken = light[lamp * MAX_EYES + eye];
                    long sum = 0;
                    for (int band = 0; band < bands; band++) {
                        sum += (long) (a[band] - b[band]) * taken[band];
                    }
                    farthest = Math.max(farthest, Math.abs(sum));
                }
            }
            return farthest;
        }

        long farthestOf(int[] a, int[] b, boolean odd) {
            long farthest = 0;
            for (int lamp = 0; lamp < lamps.count; lamp++) {
                farthest = Math.max(farthest, apartOf(a, b, lamp, odd));
            }
            return farthest;
        }

        boolean areAlike(int[] a, int[] b, int lamp, boolean odd) {
            return apartOf(a, b, lamp, odd) <= alike * 1000L;
        }

        int priceOf(int[] parts) {
            int sum = 0;
            for (int dye = 0; dye < dyes.count; dye++) {
                sum += parts[dye] * prices[dye];
            }
            return sum;
        }
    }

    /** The OLD mixes: the goods, then the goods with one dye left out, with what each throws back. */
    private static final class Olds {
        final int[] goods;
        final int[] leftOut;
        final int[][] rows;
        private final int[] rest;
        int count;

        Olds() {
            goods = new int[MAX_OLDS];
            leftOut = new int[MAX_OLDS];
            rows = new int[MAX_OLDS][MAX_BANDS];
            rest = new int[MAX_DYES];
            count = 0;
        }

        void fill(Bench bench) {
            count = 0;
            for (int good = 0; good < bench.goods.count; good++) {
                add(bench, good, NONE);
            }
            for (int good = 0; good < bench.goods.count; good++) {
                for (int dye = 0; dye < bench.dyes.count; dye++) {
                    if (bench.goods.rows[good][dye] > 0) {
                        add(bench, good, dye);
                    }
                }
            }
        }

        private void add(Bench bench, int good, int without) {
            if (count >= MAX_OLDS) {
                return;
            }
            for (int dye = 0; dye < bench.dyes.count; dye++) {
                rest[dye] = dye == without ? 0 : bench.goods.rows[good][dye];
            }
            goods[count] = good;
            leftOut[count] = without;
            bench.throwBack(bench.goodGrounds[good], rest, rows[count]);
            count++;
        }
    }

    /** What was seen, when that was told and untold, and which OLD mixes it leaves. */
    private static final class Looks {
        private final int[] lamps;
        private final int[] eyes;
        private final int[] much;
        private final int[] some;
        private final int[] toldAt;
        private final int[] untoldAt;
        private final long[] sights;
        final int[] chosen;
        private int choices;
        int count;
        int nextLamp;
        int nextEye;
        int nextCrowd;

        Looks() {
            lamps = new int[MAX_LOOKS];
            eyes = new int[MAX_LOOKS];
            much = new int[MAX_LOOKS];
            some = new int[MAX_LOOKS];
            toldAt = new int[MAX_LOOKS];
            untoldAt = new int[MAX_LOOKS];
            sights = new long[MAX_OLDS];
            chosen = new int[MAX_OLDS];
            choices = 0;
            count = 0;
        }

        boolean isFull() {
            return count >= MAX_LOOKS;
        }

        int tell(int lamp, int eye, int howMuch, int giveOrTake, int now) {
            if (isFull()) {
                return NONE;
            }
            lamps[count] = lamp;
            eyes[count] = eye;
            much[count] = howMuch;
            some[count] = giveOrTake;
            toldAt[count] = now;
            untoldAt[count] = NONE;
            count++;
            return count - 1;
        }

        boolean takeBack(int look, int now) {
            if (look < 0 || look >= count || untoldAt[look] != NONE) {
                return false;
            }
            untoldAt[look] = now;
            return true;
        }

        /** Those OLD mixes that AGREE as known at k lie in chosen then: how many. */
        int choose(Bench bench, Olds olds, int k) {
            choices = 0;
            for (int old = 0; old < olds.count; old++) {
                if (fits(bench, olds.rows[old], k)) {
                    chosen[choices] = old;
                    choices++;
                }
            }
            return choices;
        }

        private boolean fits(Bench bench, int[] row, int k) {
            for (int i = 0; i < count; i++) {
                if (counts(i, k)) {
                    long off = bench.seenOf(row, lamps[i], eyes[i]) - much[i] * 1000L;
                    if (Math.abs(off) > some[i] * 1000L) {
                        return false;
                    }
                }
            }
            return true;
        }

        private boolean counts(int i, int k) {
            return toldAt[i] <= k && (untoldAt[i] == NONE || untoldAt[i] > k);
        }

        /** The lamp and eye that leave the smallest crowd, at the worst, of those chosen. */
        void findNext(Bench bench, Olds olds) {
            nextCrowd = MAX_OLDS + 1;
            for (int lamp = 0; lamp < bench.lamps.count; lamp++) {
                for (int eye = 0; eye < bench.eyes.count; eye++) {
                    for (int i = 0; i < choices; i++) {
                        sights[i] = bench.seenOf(olds.rows[chosen[i]], lamp, eye) / 1000;
                    }
                    int crowd = greatestCrowd();
                    if (crowd < nextCrowd) {
                        nextCrowd = crowd;
                        nextLamp = lamp;
                        nextEye = eye;
                    }
                }
            }
        }

        private int greatestCrowd() {
            int greatest = 0;
            for (int i = 0; i < choices; i++) {
                int same = 0;
                for (int j = i; j < choices; j++) {
                    if (sights[j] == sights[i]) {
                        same++;
                    }
                }
                greatest = Math.max(greatest, same);
            }
            return greatest;
        }
    }

    /** Goes through all mixes on a ground of so many parts and unlike dyes at most, by their order. */
    private static final class Walk {
        private final int[][] layers;
        private final int[] row;
        private Bench bench;
        private int ground;
        private int mostParts;
        private int mostKinds;
        private int kinds;
        final int[] parts;
        int total;
        int price;

        Walk(Bench bench) {
            this.bench = bench;
            layers = new int[MAX_DYES + 1][MAX_BANDS];
            row = new int[MAX_BANDS];
            parts = new int[MAX_DYES];
        }

        void start(Bench on, int onGround, int upToParts, int upToKinds) {
            bench = on;
            ground = onGround;
            mostParts = upToParts;
            mostKinds = upToKinds;
            kinds = 0;
            total = 0;
            price = 0;
            Arrays.fill(parts, 0);
            bench.layGround(ground, layers[0]);
        }

        /** To the next mix, if there is one. */
        void advance() {
            for (int dye = bench.dyes.count - 1; dye >= 0; dye--) {
                if (total < mostParts && (parts[dye] > 0 || kinds < mostKinds)) {
                    raise(dye);
                    return;
                }
                takeOut(dye);
            }
        }

        /** All dyes behind this one are out, so the top layer ends with it or with a dye ahead of it. */
        private void raise(int dye) {
            int top = kinds;
            if (parts[dye] == 0 && kinds < MAX_DYES) {
                kinds++;
            }
            bench.addPart(ground, dye, layers[top], layers[kinds]);
            parts[dye]++;
            total++;
            price += bench.prices[dye];
        }

        private void takeOut(int dye) {
            if (parts[dye] > 0) {
                kinds--;
                total -= parts[dye];
                price -= parts[dye] * bench.prices[dye];
                parts[dye] = 0;
            }
        }

        /** What the mix throws back: worked out when asked for, since many mixes are passed by unseen. */
        int[] thrownBack() {
            bench.settle(layers[kinds], row);
            return row;
        }
    }

    /** What is asked of, and the mixes that were found. */
    private static final class Search {
        private Bench bench;
        private final Olds olds;
        private final Walk walk;
        private int good;
        private int ground;
        private int mostParts;
        private int mostKinds;
        private int keptPrice;
        private int keptTotal;
        private final long[] bestParts;
        private final long[] bestAparts;
        private final long[] aparts;
        private int width;
        boolean asked;
        int count;
        boolean lies;
        final int[] lying;
        int bests;

        Search(Bench bench, Olds olds) {
            this.bench = bench;
            this.olds = olds;
            walk = new Walk(bench);
            bestParts = new long[MAX_BEST_MIXES];
            bestAparts = new long[MAX_BEST_MIXES * MAX_LAMPS];
            aparts = new long[MAX_LAMPS];
            lying = new int[MAX_DYES];
        }

        void forget(Bench now) {
            bench = now;
            asked = false;
            count = 0;
            lies = false;
            bests = 0;
        }

        void take(int ofGood, int onGround, int upToParts, int upToKinds) {
            asked = true;
            good = ofGood;
            ground = onGround;
            mostParts = upToParts;
            mostKinds = upToKinds;
            count = countMixes();
        }

        /** By how many unlike dyes there are: which dyes, and how their parts can be shared out. */
        private int countMixes() {
            long choices = 1;
            long shares = 1;
            long sum = 1;
            int kinds = Math.min(mostKinds, bench.dyes.count);
            for (int k = 1; k <= kinds; k++) {
                choices = choices * (bench.dyes.count - k + 1) / k;
                shares = shares * (mostParts - k + 1) / k;
                sum += choices * shares;
            }
            return (int) sum;
        }

        private boolean hasLamps(int lamps) {
            return lamps > 0 && lamps < 1 << bench.lamps.count;
        }

        /** 0: the walk stands at the first mix; else what is to be answered. No mix lies there from here on. */
        private int start(boolean canBe, int limit) {
            lies = false;
            if (!asked || !canBe) {
                return NONE;
            }
            if (count > limit) {
                return SPENT;
            }
            walk.start(bench, ground, mostParts, mostKinds);
            return 0;
        }

        private void keep() {
            lies = true;
            keptPrice = walk.price;
            keptTotal = walk.total;
            System.arraycopy(walk.parts, 0, lying, 0, MAX_DYES);
        }

        /** Of mixes that are else alike the cheaper is taken, then that of fewer parts, then the first. */
        private boolean isPreferred() {
            return !lies || walk.price < keptPrice || (walk.price == keptPrice && walk.total < keptTotal);
        }

        int findMatch(int lamps, boolean odd) {
            int refusal = start(hasLamps(lamps), MAX_MIXES);
            if (refusal != 0) {
                return refusal;
            }
            for (int i = 0; i < count; i++) {
                if (isPreferred() && isMatch(lamps, odd)) {
                    keep();
                }
                walk.advance();
            }
            return lies ? keptPrice : NONE;
        }

        private boolean isMatch(int lamps, boolean odd) {
            int[] row = walk.thrownBack();
            for (int lamp = 0; lamp < bench.lamps.count; lamp++) {
                if ((lamps >> lamp & 1) != 0 && !bench.areAlike(row, olds.rows[good], lamp, odd)) {
                    return false;
                }
            }
            return true;
        }

        long findNearest(int lamps, boolean odd) {
            int refusal = start(hasLamps(lamps), MAX_MIXES);
            if (refusal != 0) {
                return refusal;
            }
            long least = Long.MAX_VALUE;
            for (int i = 0; i < count; i++) {
                long far = greatestApart(lamps, odd, least);
                if (far < least || (far == least && isPreferred())) {
                    least = far;
                    keep();
                }
                walk.advance();
            }
            return least;
        }

        /** Past the limit it is no matter how far: the lamps that are left are not looked at. */
        private long greatestApart(int lamps, boolean odd, long limit) {
            int[] row = walk.thrownBack();
            long greatest = 0;
            for (int lamp = 0; lamp < bench.lamps.count && greatest <= limit; lamp++) {
                if ((lamps >> lamp & 1) != 0) {
                    greatest = Math.max(greatest, bench.apartOf(row, olds.rows[good], lamp, odd));
                }
            }
            return greatest;
        }

        long findTrick(int day, int night, boolean odd) {
            int refusal = start(bench.lamps.has(day) && bench.lamps.has(night), MAX_MIXES);
            if (refusal != 0) {
                return refusal;
            }
            long farthest = NONE;
            for (int i = 0; i < count; i++) {
                int[] row = walk.thrownBack();
                if (bench.areAlike(row, olds.rows[good], day, odd)) {
                    long far = bench.apartOf(row, olds.rows[good], night, odd);
                    if (far > farthest || (far == farthest && isPreferred())) {
                        farthest = far;
                        keep();
                    }
                }
                walk.advance();
            }
            return farthest;
        }

        int findBest(int lamps, boolean odd) {
            bests = 0;
            int refusal = start(hasLamps(lamps), MAX_BEST_MIXES);
            if (refusal != 0) {
                return refusal;
            }
            width = Integer.bitCount(lamps);
            for (int i = 0; i < count; i++) {
                measure(lamps, odd);
                holdAgainstBest();
                walk.advance();
            }
            layBest(0);
            return bests;
        }

        private void measure(int lamps, boolean odd) {
            int[] row = walk.thrownBack();
            int column = 0;
            for (int lamp = 0; lamp < bench.lamps.count; lamp++) {
                if ((lamps >> lamp & 1) != 0) {
                    aparts[column] = bench.apartOf(row, olds.rows[good], lamp, odd);
                    column++;
                }
            }
        }

        /** One like a best mix is best too, and beats none that stands beside that one. */
        private void holdAgainstBest() {
            int rival = findRival();
            if (rival == NONE) {
                removeBeaten();
                addBest();
            } else if (isNoFarther(aparts, 0, bestAparts, rival * MAX_LAMPS)) {
                addBest();
            }
        }

        /** The first best mix that is no farther by any lamp; NONE if there is none. */
        private int findRival() {
            for (int i = 0; i < bests; i++) {
                if (isNoFarther(bestAparts, i * MAX_LAMPS, aparts, 0)) {
                    return i;
                }
            }
            return NONE;
        }

        private boolean isNoFarther(long[] a, int fromA, long[] b, int fromB) {
            for (int i = 0; i < width; i++) {
                if (a[fromA + i] > b[fromB + i]) {
                    return false;
                }
            }
            return true;
        }

        /** None is like the new one here, so what it is no farther than is beaten; the rest keep their order. */
        private void removeBeaten() {
            int left = 0;
            for (int i = 0; i < bests; i++) {
                if (!isNoFarther(aparts, 0, bestAparts, i * MAX_LAMPS)) {
                    if (left < i) {
                        bestParts[left] = bestParts[i];
                        System.arraycopy(bestAparts, i * MAX_LAMPS, bestAparts, left * MAX_LAMPS, width);
                    }
                    left++;
                }
            }
            bests = left;
        }

        private void addBest() {
            if (bests >= MAX_BEST_MIXES) {
                return;
            }
            long packed = 0;
            for (int dye = MAX_DYES - 1; dye >= 0; dye--) {
                packed = (packed << 5) | walk.parts[dye];
            }
            bestParts[bests] = packed;
            System.arraycopy(aparts, 0, bestAparts, bests * MAX_LAMPS, width);
            bests++;
        }

        void layBest(int i) {
            if (i < 0 || i >= bests) {
                return;
            }
            long packed = bestParts[i];
            for (int dye = 0; dye < MAX_DYES; dye++) {
                lying[dye] = (int) (packed >> 5 * dye & 31);
            }
            lies = true;
        }
    }

    /** The VAT and the hand's number w; a box keeps the same. */
    private static final class Vat {
        final int[] parts;
        int ground;
        int days;
        int w;
        boolean kept;

        Vat() {
            parts = new int[MAX_DYES];
            w = 1;
            putOn(0);
        }

        void putOn(int newGround) {
            ground = newGround;
            days = 0;
            Arrays.fill(parts, 0);
        }

        void copyOf(Vat other) {
            ground = other.ground;
            days = other.days;
            w = other.w;
            System.arraycopy(other.parts, 0, parts, 0, MAX_DYES);
        }

        int total() {
            int sum = 0;
            for (int dye = 0; dye < MAX_DYES; dye++) {
                sum += parts[dye];
            }
            return sum;
        }

        int drawOfTen() {
            w = w * 1103515245 + 12345;
            return (w >>> 16) % 10;
        }

        int fadeOneDay(Bench bench) {
            days++;
            int gone = 0;
            for (int dye = 0; dye < bench.dyes.count; dye++) {
                int fast = bench.fasts[dye];
                if (fast != 0 && days % fast == 0 && parts[dye] > 0) {
                    parts[dye]--;
                    gone++;
                }
            }
            return gone;
        }
    }
}
