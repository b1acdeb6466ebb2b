/** A common of thirty six cells under rugs, each of which rules where it lies uppermost and awake. */
public final class RugIsJurisdiction {
    public static final int NONE = -1, BAD = -2, STATE = -3, FULL = -4;
    public static final long NO = -4611686018427387904L;

    private static final int NO_PLACE = -5, NO_RUG = -6, NO_ASK = -7;
    private static final int HOST_NULL = -11, HOST_OUTSIDE = -12, HOST_UNLIKE = -13, HOST_BELOW = -14;

    private static final int SIDE = 6, CELLS = 36, WAYS = 4, HOURS = 24;
    private static final int RUGS = 6, MORES = 10, CROWDS = 100, TOP_FINE = 99;
    private static final int RUG = 0, TARTAN = 1, NURSE = 2, SLAVER = 3, LEAGUE = 4, ANTS = 5, KINDS = 6;
    private static final int TEXTS = 6, TAPE = 160, PARTS = 3;
    private static final int SAYS_FINES = 0, SAYS_ADMITS = 1, SAYS_SLEEPS = 2;
    private static final int SHEETS = 4, SHEET = 40, SORTS = 3;
    private static final int SEEDS = 100000, STEPS = 100;

    // Tokens and codes share their numbers, so that a name, a sign, a number is its own code.
    private static final int COLUMN = 0, ROW = 1, HOUR = 2, GUESTS = 3, SIZE = 4, MORE = 5, NAMES = 6;
    private static final int OR = 6, AND = 7, NOT = 8, FINES = 9, WORDS = 12;
    private static final int LESS = 12, EQUAL = 13, PLUS = 14, MINUS = 15, TIMES = 16;
    private static final int OPEN = 17, CLOSE = 18, STOP = 19, NEGATE = 20, END = 21, WRONG = 22, NUMBER = 23;
    private static final String SIGNS = "<=+-*();";
    private static final int DEPTH = 5, DIGITS = 4;

    private static final String FIRST_TEXT = "fines 1 + guests ; admits guests < 20 ; sleeps hour < 6 ;";

    private final Texts texts = new Texts();
    private final Tape tape = new Tape();
    private final Reader reader = new Reader(tape);
    private final Common common = new Common(texts);
    private final Tally tally = new Tally(common);
    private final Ways ways = new Ways(common);
    private final Lots lots = new Lots(common);
    private final Image kept = new Image();
    private final Sheets sheets = new Sheets();

    public RugIsJurisdiction() {
        for (int i = 0; i < FIRST_TEXT.length(); i++) {
            tape.add(FIRST_TEXT.charAt(i));
        }
        readTape();
    }

    // ---- the common, the law, rugs

    public int count(int what) {
        switch (what) {
            case 0: return common.rugs;
            case 1: return common.hour;
            case 2: return texts.known;
            case 3: return common.law;
            case 4: return tape.size;
            default: return BAD;
        }
    }

    public int strikes(int h) {
        if (h < 0 || h >= HOURS) {
            return BAD;
        }
        int was = common.hour;
        common.hour = h;
        return was;
    }

    public int feed(int n, int a, int b, int c, int d, int e) {
        if (n < 1 || n > 5 || !isByte(a) || !isByte(b) || !isByte(c) || !isByte(d) || !isByte(e)) {
            return BAD;
        }
        if (n > TAPE - tape.size) {
            return FULL;
        }
        tape.add(a);
        if (n > 1) {
            tape.add(b);
        }
        if (n > 2) {
            tape.add(c);
        }
        if (n > 3) {
            tape.add(d);
        }
        if (n > 4) {
            tape.add(e);
        }
        return tape.size;
    }

    public int text() {
        return texts.known >= TEXTS ? FULL : readTape();
    }

    public int force(int t) {
        if (t < 0 || t >= texts.known) {
            return BAD;
        }
        int was = common.law;
        common.law = t;
        return was;
    }

    public int asks(int part, int r, int c) {
        if (part < 0 || part >= PARTS || !common.isRug(r) || !isCell(c)) {
            return BAD;
        }
        return common.says(part, r, c, common.hour);
    }

    public int spread(int kindMore, int corners) {
        if (kindMore < 0 || kindMore >= KINDS * MORES || !areCorners(corners)) {
            return BAD;
        }
        return common.rugs >= RUGS ? FULL : common.add(kindMore, corners);
    }

    public int put(int r, int what, int v) {
        if (!common.isRug(r)) {
            return NO_PLACE;
        }
        if (what == 0 && areCorners(v)) {
            int was = common.corners(r);
            common.lay(r, v / 100, v % 100);
            return was;
        }
        if (what == 1 && v >= 0 && v < CROWDS) {
            int was = common.guests[r];
            common.guests[r] = v;
            return was;
        }
        return NO_ASK;
    }

    public int told(int r, int what) {
        if (!common.isRug(r)) {
            return NO_PLACE;
        }
        switch (what) {
            case 0: return common.corners(r);
            case 1: return common.guests[r];
            case 2: return common.kind[r];
            case 3: return common.more[r];
            case 4: return common.size[r];
            case 5: return common.ruledNow(r);
            case 6: return common.isAsleep(r, common.hour) ? 1 : 0;
            default: return NO_ASK;
        }
    }

    // ---- who rules where, walks

    public int over(int c, int what) {
        if (!isCell(c)) {
            return NO_PLACE;
        }
        common.look();
        switch (what) {
            case 0: return common.ruler[c];
            case 1: return common.fine[c];
            case 2: return common.letsOn(c) ? 1 : 0;
            case 3: return common.layers(c);
            default: return NO_ASK;
        }
    }

    public long rules(int r) {
        if (r != NONE && !common.isRug(r)) {
            return NO;
        }
        common.findRulers();
        return common.realm(r);
    }

    public int walk(int s, int what) {
        int refusal = refusesWalk(s);
        if (refusal != 0) {
            return refusal;
        }
        common.look();
        int denied = goThrough(s);
        return what == 0 ? denied : tally.answer(what - 1);
    }

    public int visit(int s) {
        int refusal = refusesWalk(s);
        if (refusal != 0) {
            return refusal;
        }
        common.look();
        if (goThrough(s) != NONE) {
            return STATE;
        }
        common.welcome(tally.rugs);
        return tally.fined;
    }

    public int ball(int c, int way, int what) {
        if (!isCell(c)) {
            return NO_PLACE;
        }
        if (way < 0 || way >= WAYS || what < 0 || what > 2) {
            return NO_ASK;
        }
        common.look();
        tally.begin();
        int at = c;
        for (int i = 0; i < SIDE && at != NONE; i++) {
            tally.go(at);
            at = stepFrom(at, way);
        }
        // The face numbers rugs and borders of a ball the other way round than those of a walk.
        return tally.answer(what == 0 ? 0 : 3 - what);
    }

    public int way(int cells, int what) {
        if (cells < 0 || !isCell(cells / 100) || !isCell(cells % 100) || what < 0 || what > 2) {
            return BAD;
        }
        common.look();
        return ways.least(cells / 100, cells % 100, what);
    }

    // ---- borders, leagues

    public int borders(int r) {
        if (!common.isRug(r)) {
            return NO_PLACE;
        }
        common.findRulers();
        return common.neighbours(r);
    }

    public int league(int r, int what) {
        if (!common.isRug(r)) {
            return NO_PLACE;
        }
        if (what != 0 && what != 1) {
            return NO_ASK;
        }
        common.findRulers();
        int members = common.joined(r);
        return what == 0 ? members : common.ruledByAny(members);
    }

    // ---- what is best

    public int place(int r, int what) {
        if (!common.isRug(r)) {
            return NO_PLACE;
        }
        if (what != 0 && what != 1) {
            return NO_ASK;
        }
        int first = common.from[r];
        int last = common.to[r];
        int best = NONE;
        int most = NONE;
        for (int c = 0; c < CELLS; c++) {
            int opposite = c + last - first;
            if (columnOf(c) + columnOf(last) - columnOf(first) < SIDE && opposite < CELLS) {
                common.lay(r, c, opposite);
                int many = common.ruledNow(r);
                if (many > most) {
                    most = many;
                    best = 100 * c + opposite;
                }
            }
        }
        common.lay(r, first, last);
        return what == 0 ? best : most;
    }

    public int freest(int what) {
        if (what != 0 && what != 1) {
            return BAD;
        }
        int best = 0;
        int least = common.fineOfAll(0, common.awakeAt(0));
        for (int h = 1; h < HOURS; h++) {
            int fined = common.fineOfAll(h, common.awakeAt(h));
            if (fined < least) {
                least = fined;
                best = h;
            }
        }
        return what == 0 ? best : least;
    }

    public int fold(int what) {
        if (what != 0 && what != 1) {
            return BAD;
        }
        int best = NONE;
        int least = 0;
        int awake = common.awakeAt(common.hour);
        for (int r = 0; r < common.rugs; r++) {
            int fined = common.fineOfAll(common.hour, awake & ~(1 << r));
            if (best == NONE || fined < least) {
                least = fined;
                best = r;
            }
        }
        return what == 0 ? best : least;
    }

    public long share(int r, int part) {
        if (!common.isRug(r) || part < 0 || part > 1) {
            return NO;
        }
        return inLowestTerms(common.ruledNow(r), CELLS, part);
    }

    public long mean(int r, int part) {
        if (!common.isRug(r) || part < 0 || part > 1) {
            return NO;
        }
        common.look();
        int many = common.ruledByAny(1 << r);
        return many == 0 ? NO : inLowestTerms(common.fineOfRealm(r), many, part);
    }

    // ---- told fines

    public int judge(int s, int c) {
        int refusal = refusesFines(s, c);
        return refusal != 0 ? refusal : common.firstOther(sheets.row[s], sheets.size[s], c);
    }

    public int kinds(int s, int c, int r, int sort) {
        int refusal = refusesFines(s, c);
        if (refusal != 0) {
            return refusal;
        }
        if (!common.isRug(r)) {
            return NO_RUG;
        }
        if (sort != 0 && sort != 1) {
            return NO_ASK;
        }
        int[] guessed = sort == 0 ? common.kind : common.more;
        int guesses = sort == 0 ? KINDS : MORES;
        int was = guessed[r];
        int fitting = 0;
        for (int guess = 0; guess < guesses; guess++) {
            guessed[r] = guess;
            if (common.firstOther(sheets.row[s], sheets.size[s], c) == NONE) {
                fitting |= 1 << guess;
            }
        }
        guessed[r] = was;
        return fitting;
    }

    public int crowds(int s, int c, int r, int what) {
        int refusal = refusesFines(s, c);
        if (refusal != 0) {
            return refusal;
        }
        if (!common.isRug(r)) {
            return NO_RUG;
        }
        if (what != 0 && what != 1) {
            return NO_ASK;
        }
        int was = common.guests[r];
        int many = 0;
        int least = NONE;
        for (int guess = CROWDS - 1; guess >= 0; guess--) {
            common.guests[r] = guess;
            if (common.firstOther(sheets.row[s], sheets.size[s], c) == NONE) {
                many++;
                least = guess;
            }
        }
        common.guests[r] = was;
        return what == 0 ? many : least;
    }

    public long where(int s) {
        if (refusesFines(s, 0) != 0) {
            return NO;
        }
        long fitting = 0;
        for (int c = 0; c < CELLS; c++) {
            if (common.firstOther(sheets.row[s], sheets.size[s], c) == NONE) {
                fitting |= 1L << c;
            }
        }
        return fitting;
    }

    public int laws(int s, int c) {
        int refusal = refusesFines(s, c);
        if (refusal != 0) {
            return refusal;
        }
        int was = common.law;
        int fitting = 0;
        for (int t = 0; t < texts.known; t++) {
            common.law = t;
            if (common.firstOther(sheets.row[s], sheets.size[s], c) == NONE) {
                fitting |= 1 << t;
            }
        }
        common.law = was;
        return fitting;
    }

    public int film(int s, int c, int n) {
        if (s < 0 || s >= SHEETS) {
            return BAD;
        }
        if (!isCell(c)) {
            return NO_PLACE;
        }
        if (n < 0 || n > HOURS) {
            return NO_ASK;
        }
        sheets.renew(s, 1, n);
        for (int h = 0; h < n; h++) {
            sheets.write(s, h, common.fineWere(c, h));
        }
        return n;
    }

    // ---- walks by lots

    public int drawn(int seed, int cellSteps, int what) {
        if (!isSeed(seed) || !isCellSteps(cellSteps)) {
            return BAD;
        }
        common.look();
        lots.stroll(seed, cellSteps / STEPS, cellSteps % STEPS);
        switch (what) {
            case 0: return lots.fined;
            case 1: return lots.at;
            case 2: return lots.borders;
            default: return BAD;
        }
    }

    public long odds(int seed, int seeds, int cellSteps, int least, int part) {
        if (!isSeed(seed) || seeds < 1 || seeds > 40 || !isCellSteps(cellSteps)) {
            return NO;
        }
        if (least < 0 || least > 99999 || part < 0 || part > 1) {
            return NO;
        }
        common.look();
        int dear = 0;
        for (int i = 0; i < seeds; i++) {
            lots.stroll(seed + i, cellSteps / STEPS, cellSteps % STEPS);
            if (lots.fined >= least) {
                dear++;
            }
        }
        return inLowestTerms(dear, seeds, part);
    }

    public int image() {
        kept.keep(common);
        return common.rugs;
    }

    public int back() {
        if (!kept.isThere) {
            return STATE;
        }
        kept.restore(common);
        return common.rugs;
    }

    // ---- the host

    public int sheet(int s, int sort, int n) {
        if (s < 0 || s >= SHEETS || sort < NONE || sort >= SORTS) {
            return BAD;
        }
        if (sort == NONE) {
            sheets.renew(s, NONE, 0);
            return 1;
        }
        if (n > SHEET) {
            return BAD;
        }
        if (n < 0) {
            return HOST_BELOW;
        }
        sheets.renew(s, sort, n);
        return 1;
    }

    public int cell(int s, int i, int v) {
        int refusal = sheets.refuses(s);
        if (refusal != 0) {
            return refusal;
        }
        if (i < 0 || i >= sheets.size[s]) {
            return HOST_OUTSIDE;
        }
        sheets.write(s, i, v);
        return 1;
    }

    public int copy(int s, int i, int other, int j, int n) {
        if (s < 0 || s >= SHEETS || other < 0 || other >= SHEETS) {
            return BAD;
        }
        if (sheets.sort[s] == NONE || sheets.sort[other] == NONE) {
            return HOST_NULL;
        }
        if (sheets.sort[s] != sheets.sort[other]) {
            return HOST_UNLIKE;
        }
        if (i < 0 || j < 0 || n < 0 || n > sheets.size[s] - i || n > sheets.size[other] - j) {
            return HOST_OUTSIDE;
        }
        System.arraycopy(sheets.row[s], i, sheets.row[other], j, n);
        return n;
    }

    public int rugsBy(int s, int sort, int from1, int n) {
        if (s < 0 || s >= SHEETS || sort < 0 || sort >= SORTS || n < 0 || n > RUGS) {
            return BAD;
        }
        if (sheets.sort[s] == NONE) {
            return HOST_NULL;
        }
        if (sheets.sort[s] != sort) {
            return HOST_UNLIKE;
        }
        int came = 0;
        int at = from1;
        for (int i = 0; i < n; i++) {
            if (at < 0 || at > sheets.size[s] - 2) {
                return HOST_OUTSIDE;
            }
            if (spread(sheets.row[s][at], sheets.row[s][at + 1]) >= 0) {
                came++;
            }
            at += 2;
        }
        return came;
    }

    public int taken(int i, int kind) {
        if (kind < 0 || kind > KINDS) {
            return BAD;
        }
        if (i < 0 || i >= 2 * RUGS) {
            return HOST_OUTSIDE;
        }
        int r = i % RUGS;
        if (!common.isRug(r)) {
            return HOST_NULL;
        }
        boolean asGuests = kind == KINDS;
        if (asGuests ? i < RUGS : i >= RUGS) {
            return HOST_UNLIKE;
        }
        if (asGuests) {
            return common.guests[r];
        }
        return isA(common.kind[r], kind) ? r : HOST_UNLIKE;
    }

    // ---- what several calls share

    private int readTape() {
        int fault = reader.fault();
        tape.size = 0;
        return fault == NONE ? texts.add(reader.codes, reader.ends) : -100 - fault;
    }

    private int refusesWalk(int s) {
        int refusal = sheets.refuses(s);
        if (refusal != 0) {
            return refusal;
        }
        return isWalk(sheets.row[s], sheets.size[s]) ? 0 : BAD;
    }

    private int refusesFines(int s, int c) {
        int refusal = sheets.refuses(s);
        if (refusal != 0) {
            return refusal;
        }
        if (sheets.size[s] > HOURS) {
            return BAD;
        }
        return isCell(c) ? 0 : NO_PLACE;
    }

    /** Tallies a walk up to the step at which one is not let on: that step. */
    private int goThrough(int s) {
        tally.begin();
        for (int i = 0; i < sheets.size[s]; i++) {
            int c = sheets.row[s][i];
            if (tally.isStopped(c)) {
                return i;
            }
            tally.go(c);
        }
        return NONE;
    }

    private static boolean isByte(int v) {
        return v >= 0 && v <= 255;
    }

    private static boolean isSeed(int seed) {
        return seed >= 0 && seed < SEEDS;
    }

    private static boolean isCellSteps(int cellSteps) {
        return cellSteps >= 0 && cellSteps < CELLS * STEPS;
    }

    private static boolean isCell(int c) {
        return c >= 0 && c < CELLS;
    }

    private static int columnOf(int c) {
        return c % SIDE;
    }

    private static int rowOf(int c) {
        return c / SIDE;
    }

    private static boolean areCorners(int v) {
        if (v < 0 || !isCell(v / 100) || !isCell(v % 100)) {
            return false;
        }
        return columnOf(v % 100) >= columnOf(v / 100) && rowOf(v % 100) >= rowOf(v / 100);
    }

    /** Ways 0 .. 3: to greater, to lesser columns, to greater, to lesser rows; no step leaves the common. */
    private static int stepFrom(int c, int way) {
        switch (way) {
            case 0: return columnOf(c) < SIDE - 1 ? c + 1 : NONE;
            case 1: return columnOf(c) > 0 ? c - 1 : NONE;
            case 2: return rowOf(c) < SIDE - 1 ? c + SIDE : NONE;
            case 3: return rowOf(c) > 0 ? c - SIDE : NONE;
            default: return NONE;
        }
    }

    private static boolean areBeside(int a, int b) {
        int across = Math.abs(columnOf(a) - columnOf(b));
        int along = Math.abs(rowOf(a) - rowOf(b));
        return across + along == 1;
    }

    private static boolean isWalk(int[] row, int size) {
        for (int i = 0; i < size && i < row.length; i++) {
            if (!isCell(row[i]) || i > 0 && !areBeside(row[i - 1], row[i])) {
                return false;
            }
        }
        return true;
    }

    private static boolean isA(int kind, int asked) {
        switch (asked) {
            case RUG: return true;
            case TARTAN: return kind == TARTAN || kind == SLAVER;
            case NURSE: return kind == NURSE || kind == LEAGUE;
            default: return kind == asked;
        }
    }

    private static long inLowestTerms(int above, int below, int part) {
        int a = above;
        int b = below;
        for (int i = 0; i < 1000 && b != 0; i++) {
            int rest = a % b;
            a = b;
            b = rest;
        }
        int whole = part == 0 ? above : below;
        return a == 0 ? whole : whole / a;
    }

    /** The texts as rows of codes, each sign behind what it joins, so that reading needs no recursion. */
    private static final class Texts {
        int known;
        final int[][] codes = new int[TEXTS][TAPE];
        final int[][] ends = new int[TEXTS][PARTS];
        final int[] names = new int[NAMES];
        final int[] stack = new int[TAPE];

        int add(int[] newCodes, int[] newEnds) {
            if (known >= TEXTS) {
                return FULL;
            }
            System.arraycopy(newCodes, 0, codes[known], 0, TAPE);
            System.arraycopy(newEnds, 0, ends[known], 0, PARTS);
            return known++;
        }

        int value(int t, int part) {
            int top = 0;
            int first = part == 0 ? 0 : ends[t][part - 1];
            for (int i = first; i < ends[t][part]; i++) {
                int code = codes[t][i];
                if (code >= NUMBER && top < TAPE) {
                    stack[top++] = code - NUMBER;
                } else if (code < NAMES && top < TAPE) {
                    stack[top++] = names[code];
                } else if (code == NOT && top > 0) {
                    stack[top - 1] = stack[top - 1] == 0 ? 1 : 0;
                } else if (code == NEGATE && top > 0) {
                    stack[top - 1] = -stack[top - 1];
                } else if (top > 1) {
                    top--;
                    int a = stack[top - 1];
                    int b = stack[top];
                    switch (code) {
                        case OR: a = a != 0 || b != 0 ? 1 : 0; break;
                        case AND: a = a != 0 && b != 0 ? 1 : 0; break;
                        case LESS: a = a < b ? 1 : 0; break;
                        case EQUAL: a = a == b ? 1 : 0; break;
                        case PLUS: a += b; break;
                        case MINUS: a -= b; break;
                        default: a *= b;
                    }
                    stack[top - 1] = a;
                }
            }
            return stack[0];
        }
    }

    /** The tape's bytes, and the tokens that they are split into. */
    private static final class Tape {
        final int[] bytes = new int[TAPE];
        int size;
        // One more than bytes: the end is a token, too.
        final int[] tokens = new int[TAPE + 1];
        final int[] places = new int[TAPE + 1];
        int known;

        void add(int b) {
            if (size < TAPE) {
                bytes[size++] = b;
            }
        }

        void split() {
            known = 0;
            int at = 0;
            for (int i = 0; i < TAPE && at < size; i++) {
                if (bytes[at] == 32 || bytes[at] == 10) {
                    at++;
                } else {
                    int behind = endOf(at);
                    note(tokenOf(at, behind), at);
                    at = behind;
                }
            }
            note(END, size);
        }

        void note(int token, int place) {
            if (known <= TAPE) {
                tokens[known] = token;
                places[known] = place;
                known++;
            }
        }

        int endOf(int start) {
            int sort = sortOf(bytes[start]);
            int at = start + 1;
            for (int i = 0; i < TAPE && sort != 0 && at < size && sortOf(bytes[at]) == sort; i++) {
                at++;
            }
            return at;
        }

        static int sortOf(int b) {
            if (b >= 'a' && b <= 'z') {
                return 1;
            }
            return b >= '0' && b <= '9' ? 2 : 0;
        }

        int tokenOf(int start, int behind) {
            switch (sortOf(bytes[start])) {
                case 1: return word(start, behind);
                case 2: return behind - start > DIGITS ? WRONG : NUMBER + number(start, behind);
                default: return sign(bytes[start]);
            }
        }

        int word(int start, int behind) {
            for (int token = 0; token < WORDS; token++) {
                if (spells(spelled(token), start, behind)) {
                    return token;
                }
            }
            return WRONG;
        }

        boolean spells(String word, int start, int behind) {
            if (word.length() != behind - start) {
                return false;
            }
            for (int i = 0; i < word.length(); i++) {
                if (word.charAt(i) != bytes[start + i]) {
                    return false;
                }
            }
            return true;
        }

        static String spelled(int token) {
            switch (token) {
                case COLUMN: return "column";
                case ROW: return "row";
                case HOUR: return "hour";
                case GUESTS: return "guests";
                case SIZE: return "size";
                case MORE: return "more";
                case OR: return "or";
                case AND: return "and";
                case NOT: return "not";
                case FINES: return "fines";
                case FINES + SAYS_ADMITS: return "admits";
                default: return "sleeps";
            }
        }

        int number(int start, int behind) {
            int value = 0;
            for (int i = start; i < behind; i++) {
                value = 10 * value + bytes[i] - '0';
            }
            return value;
        }

        static int sign(int b) {
            int i = SIGNS.indexOf((char) b);
            return i < 0 ? WRONG : LESS + i;
        }
    }

    /** Reads the tokens by the grammar; all reading ends at the first one that can't stand there. */
    private static final class Reader {
        final Tape tape;
        final int[] codes = new int[TAPE];
        final int[] ends = new int[PARTS];
        int written;
        int at;
        boolean isWrong;

        Reader(Tape tape) {
            this.tape = tape;
        }

        /** The place of the fault, or NONE. */
        int fault() {
            tape.split();
            written = 0;
            at = 0;
            isWrong = false;
            for (int part = 0; part < PARTS; part++) {
                demand(FINES + part);
                readOr(0);
                demand(STOP);
                ends[part] = written;
            }
            demand(END);
            return isWrong ? tape.places[at] : NONE;
        }

        boolean isAt(int token) {
            return !isWrong && tape.tokens[at] == token;
        }

        void demand(int token) {
            if (isAt(token)) {
                goOn();
            } else {
                isWrong = true;
            }
        }

        void goOn() {
            if (at < tape.known - 1) {
                at++;
            }
        }

        void write(int code) {
            if (written < TAPE) {
                codes[written++] = code;
            }
        }

        private void readOr(int open) {
            readAnd(open);
            for (int i = 0; i < TAPE && isAt(OR); i++) {
                goOn();
                readAnd(open);
                write(OR);
            }
        }

        private void readAnd(int open) {
            readNot(open);
            for (int i = 0; i < TAPE && isAt(AND); i++) {
                goOn();
                readNot(open);
                write(AND);
            }
        }

        private void readNot(int open) {
            if (isAt(NOT)) {
                if (opens(open)) {
                    readNot(open + 1);
                    write(NOT);
                }
                return;
            }
            readSum(open);
            if (isAt(LESS) || isAt(EQUAL)) {
                int sign = tape.tokens[at];
                goOn();
                readSum(open);
                write(sign);
            }
        }

        private void readSum(int open) {
            readTerm(open);
            for (int i = 0; i < TAPE && (isAt(PLUS) || isAt(MINUS)); i++) {
                int sign = tape.tokens[at];
                goOn();
                readTerm(open);
                write(sign);
            }
        }

        private void readTerm(int open) {
            readOne(open);
            for (int i = 0; i < TAPE && isAt(TIMES); i++) {
                goOn();
                readOne(open);
                write(TIMES);
            }
        }

        private void readOne(int open) {
            if (isAt(MINUS)) {
                if (opens(open)) {
                    readOne(open + 1);
                    write(NEGATE);
                }
            } else if (isAt(OPEN)) {
                if (opens(open)) {
                    readOr(open + 1);
                    demand(CLOSE);
                }
            } else if (!isWrong && (tape.tokens[at] >= NUMBER || tape.tokens[at] < NAMES)) {
                write(tape.tokens[at]);
                goOn();
            } else {
                isWrong = true;
            }
        }

        boolean opens(int open) {
            if (open >= DEPTH) {
                isWrong = true;
                return false;
            }
            goOn();
            return true;
        }
    }

    /** The rugs, the hour and the law: who rules where, and what that costs. */
    private static final class Common {
        final Texts texts;
        int rugs;
        int hour = 12;
        int law;
        final int[] kind = new int[RUGS];
        final int[] more = new int[RUGS];
        final int[] from = new int[RUGS];
        final int[] to = new int[RUGS];
        final int[] size = new int[RUGS];
        final int[] guests = new int[RUGS];
        // As of the last look().
        final int[] ruler = new int[CELLS];
        final int[] fine = new int[CELLS];

        Common(Texts texts) {
            this.texts = texts;
        }

        boolean isRug(int r) {
            return r >= 0 && r < rugs;
        }

        int add(int kindMore, int corners) {
            int r = rugs;
            rugs++;
            kind[r] = kindMore / MORES;
            more[r] = kindMore % MORES;
            guests[r] = 0;
            lay(r, corners / 100, corners % 100);
            return r;
        }

        void lay(int r, int first, int last) {
            from[r] = first;
            to[r] = last;
            size[r] = (columnOf(last) - columnOf(first) + 1) * (rowOf(last) - rowOf(first) + 1);
        }

        int corners(int r) {
            return 100 * from[r] + to[r];
        }

        boolean liesOn(int r, int c) {
            return columnOf(c) >= columnOf(from[r]) && columnOf(c) <= columnOf(to[r])
                && rowOf(c) >= rowOf(from[r]) && rowOf(c) <= rowOf(to[r]);
        }

        boolean hasFringeOn(int r, int c) {
            return columnOf(c) == columnOf(from[r]) || columnOf(c) == columnOf(to[r])
                || rowOf(c) == rowOf(from[r]) || rowOf(c) == rowOf(to[r]);
        }

        int layers(int c) {
            int many = 0;
            for (int r = 0; r < rugs; r++) {
                if (liesOn(r, c)) {
                    many++;
                }
            }
            return many;
        }

        int says(int part, int r, int c, int atHour) {
            int[] names = texts.names;
            names[COLUMN] = columnOf(c);
            names[ROW] = rowOf(c);
            names[HOUR] = atHour;
            names[GUESTS] = guests[r];
            names[SIZE] = size[r];
            names[MORE] = more[r];
            int value = texts.value(law, part);
            if (part == SAYS_FINES) {
                return Math.max(0, Math.min(TOP_FINE, value));
            }
            return value == 0 ? 0 : 1;
        }

        boolean isAsleep(int r, int atHour) {
            if (kind[r] == ANTS) {
                return false;
            }
            boolean asRug = says(SAYS_SLEEPS, r, from[r], atHour) != 0;
            boolean asNurse = asRug || atHour == 14 || atHour == 15;
            switch (kind[r]) {
                case NURSE: return asNurse;
                case LEAGUE: return !asNurse;
                default: return asRug;
            }
        }

        boolean admits(int r, int c) {
            if (kind[r] == SLAVER) {
                return true;
            }
            boolean asRug = says(SAYS_ADMITS, r, c, hour) != 0;
            return isA(kind[r], NURSE) ? asRug && guests[r] < more[r] : asRug;
        }

        int fineOf(int r, int c, int atHour) {
            if (r == NONE) {
                return 0;
            }
            if (kind[r] == ANTS) {
                return more[r];
            }
            int asRug = says(SAYS_FINES, r, c, atHour);
            boolean onFringe = hasFringeOn(r, c);
            int asTartan = onFringe ? asRug + 2 * more[r] : asRug;
            switch (kind[r]) {
                case TARTAN: return asTartan;
                case SLAVER: return 2 * asTartan;
                case LEAGUE: return onFringe ? 0 : asRug / 2;
                default: return asRug;
            }
        }

        int awakeAt(int atHour) {
            int awake = 0;
            for (int r = 0; r < rugs; r++) {
                if (!isAsleep(r, atHour)) {
                    awake |= 1 << r;
                }
            }
            return awake;
        }

        int rulerAmong(int awake, int c) {
            for (int r = rugs - 1; r >= 0; r--) {
                if ((awake >> r & 1) != 0 && liesOn(r, c)) {
                    return r;
                }
            }
            return NONE;
        }

        /** Finds who rules each cell now, and its fine, ahead of questions on many cells. */
        void look() {
            findRulers();
            for (int c = 0; c < CELLS; c++) {
                fine[c] = fineOf(ruler[c], c, hour);
            }
        }

        void findRulers() {
            int awake = awakeAt(hour);
            for (int c = 0; c < CELLS; c++) {
                ruler[c] = rulerAmong(awake, c);
            }
        }

        boolean letsOn(int c) {
            return ruler[c] == NONE || admits(ruler[c], c);
        }

        long realm(int r) {
            long cells = 0;
            for (int c = 0; c < CELLS; c++) {
                if (ruler[c] == r) {
                    cells |= 1L << c;
                }
            }
            return cells;
        }

        int fineOfRealm(int r) {
            int fined = 0;
            for (int c = 0; c < CELLS; c++) {
                if (ruler[c] == r) {
                    fined += fine[c];
                }
            }
            return fined;
        }

        int ruledNow(int r) {
            findRulers();
            return ruledByAny(1 << r);
        }

        int ruledByAny(int members) {
            int many = 0;
            for (int c = 0; c < CELLS; c++) {
                if (ruler[c] != NONE && (members >> ruler[c] & 1) != 0) {
                    many++;
                }
            }
            return many;
        }

        int neighbours(int r) {
            int found = 0;
            for (int c = 0; c < CELLS; c++) {
                for (int way = 0; way < WAYS; way++) {
                    int next = stepFrom(c, way);
                    if (ruler[c] == r && next != NONE && ruler[next] != r && ruler[next] != NONE) {
                        found |= 1 << ruler[next];
                    }
                }
            }
            return found;
        }

        int joined(int r) {
            int members = ruledByAny(1 << r) == 0 ? 0 : 1 << r;
            for (int round = 0; round < RUGS; round++) {
                for (int member = 0; member < rugs; member++) {
                    if ((members >> member & 1) != 0) {
                        members |= neighbours(member);
                    }
                }
            }
            return members;
        }

        void welcome(int visited) {
            for (int r = 0; r < rugs; r++) {
                if ((visited >> r & 1) != 0 && guests[r] < CROWDS - 1) {
                    guests[r]++;
                }
            }
        }

        int fineOfAll(int atHour, int awake) {
            int fined = 0;
            for (int c = 0; c < CELLS; c++) {
                fined += fineOf(rulerAmong(awake, c), c, atHour);
            }
            return fined;
        }

        int fineWere(int c, int atHour) {
            return fineOf(rulerAmong(awakeAt(atHour), c), c, atHour);
        }

        int firstOther(int[] told, int size, int c) {
            for (int h = 0; h < size && h < told.length; h++) {
                if (fineWere(c, h) != told[h]) {
                    return h;
                }
            }
            return NONE;
        }
    }

    /** What cells gone over one by one add up to, as of the common's last look(). */
    private static final class Tally {
        final Common common;
        int fined;
        int borders;
        int rugs;
        int last;

        Tally(Common common) {
            this.common = common;
        }

        void begin() {
            fined = 0;
            borders = 0;
            rugs = 0;
            last = NONE;
        }

        boolean crosses(int c) {
            return last != NONE && common.ruler[last] != common.ruler[c];
        }

        boolean isStopped(int c) {
            return (last == NONE || crosses(c)) && !common.letsOn(c);
        }

        void go(int c) {
            fined += common.fine[c];
            if (crosses(c)) {
                borders++;
            }
            if (common.ruler[c] != NONE) {
                rugs |= 1 << common.ruler[c];
            }
            last = c;
        }

        int answer(int what) {
            switch (what) {
                case 0: return fined;
                case 1: return borders;
                case 2: return rugs;
                default: return NO_ASK;
            }
        }
    }

    /** The least ways over cells that are all let on, as of the common's last look(). */
    private static final class Ways {
        final Common common;
        final boolean[] isOpen = new boolean[CELLS];
        final int[] cost = new int[CELLS];

        Ways(Common common) {
            this.common = common;
        }

        int least(int first, int last, int what) {
            for (int c = 0; c < CELLS; c++) {
                isOpen[c] = common.letsOn(c);
                cost[c] = NONE;
            }
            if (isOpen[first]) {
                cost[first] = what == 1 ? 0 : stepCost(first, first, what);
            }
            boolean isBetter = true;
            for (int round = 0; round < CELLS && isBetter; round++) {
                isBetter = false;
                for (int c = 0; c < CELLS; c++) {
                    if (cost[c] != NONE && lowersBeside(c, what)) {
                        isBetter = true;
                    }
                }
            }
            return cost[last];
        }

        boolean lowersBeside(int c, int what) {
            boolean isBetter = false;
            for (int way = 0; way < WAYS; way++) {
                int next = stepFrom(c, way);
                if (next != NONE && isOpen[next]) {
                    int through = cost[c] + stepCost(c, next, what);
                    if (cost[next] == NONE || through < cost[next]) {
                        cost[next] = through;
                        isBetter = true;
                    }
                }
            }
            return isBetter;
        }

        int stepCost(int c, int next, int what) {
            switch (what) {
                case 0: return common.fine[next];
                case 1: return common.ruler[c] == common.ruler[next] ? 0 : 1;
                default: return 1;
            }
        }
    }

    /** Walks by lots, as of the common's last look(). */
    private static final class Lots {
        final Common common;
        int at;
        int fined;
        int borders;

        Lots(Common common) {
            this.common = common;
        }

        void stroll(int seed, int cell, int steps) {
            at = cell;
            fined = 0;
            borders = 0;
            long lot = seed + 1;
            for (int i = 0; i < steps; i++) {
                fined += common.fine[at];
                lot = lot * 48271 % 2147483647;
                int next = stepFrom(at, (int) (lot % WAYS));
                if (next != NONE) {
                    borders += common.ruler[at] == common.ruler[next] ? 0 : 1;
                    at = next;
                }
            }
        }
    }

    /** What image() keeps; kind and more of a rug never change, and rugs are never lost behind an image. */
    private static final class Image {
        boolean isThere;
        int rugs;
        int hour;
        int law;
        final int[] from = new int[RUGS];
        final int[] to = new int[RUGS];
        final int[] guests = new int[RUGS];

        void keep(Common common) {
            isThere = true;
            rugs = common.rugs;
            hour = common.hour;
            law = common.law;
            System.arraycopy(common.from, 0, from, 0, RUGS);
            System.arraycopy(common.to, 0, to, 0, RUGS);
            System.arraycopy(common.guests, 0, guests, 0, RUGS);
        }

        void restore(Common common) {
            common.rugs = rugs;
            common.hour = hour;
            common.law = law;
            for (int r = 0; r < rugs && r < RUGS; r++) {
                common.lay(r, from[r], to[r]);
            }
            System.arraycopy(guests, 0, common.guests, 0, RUGS);
        }
    }

    /** Rows of numbers by sort; all stand in ints, narrowed as they are written. */
    private static final class Sheets {
        final int[][] row = new int[SHEETS][SHEET];
        final int[] sort = new int[SHEETS];
        final int[] size = new int[SHEETS];

        Sheets() {
            for (int s = 0; s < SHEETS; s++) {
                sort[s] = NONE;
            }
        }

        int refuses(int s) {
            if (s < 0 || s >= SHEETS) {
                return BAD;
            }
            return sort[s] == NONE ? HOST_NULL : 0;
        }

        void renew(int s, int newSort, int newSize) {
            sort[s] = newSort;
            size[s] = newSize;
            for (int i = 0; i < newSize && i < SHEET; i++) {
                row[s][i] = 0;
            }
        }

        void write(int s, int i, int v) {
            switch (sort[s]) {
                case 0: row[s][i] = (byte) v; break;
                case 1: row[s][i] = (short) v; break;
                default: row[s][i] = v;
            }
        }
    }
}
