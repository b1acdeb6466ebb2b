import java.util.ArrayDeque;
import java.util.ArrayList;
import java.util.Arrays;
import java.util.Deque;
import java.util.List;
import java.util.PriorityQueue;

/**
 * The document said once more, by other means than the program's (kinds as classes, texts as trees,
 * ways by a queue), for tests to set the one beside the other.
 */
public final class Plain {
    static final int NONE = -1, BAD = -2, STATE = -3, FULL = -4;
    static final long NO = -4611686018427387904L;

    // ---- texts

    interface Expr {
        int of(Rug rug, int cell, int hour);
    }

    static final class Token {
        final String kind;
        final int place;
        final String said;

        Token(String kind, int place, String said) {
            this.kind = kind;
            this.place = place;
            this.said = said;
        }
    }

    static final List<String> NAMES = Arrays.asList("column", "row", "hour", "guests", "size", "more");
    static final List<String> KEYS = Arrays.asList("fines", "admits", "sleeps", "or", "and", "not");

    static List<Token> tokens(String tape) {
        List<Token> all = new ArrayList<>();
        int i = 0;
        while (i < tape.length()) {
            char c = tape.charAt(i);
            int from = i;
            i++;
            if (c == ' ' || c == '\n') {
                continue;
            }
            if (c >= 'a' && c <= 'z') {
                while (i < tape.length() && tape.charAt(i) >= 'a' && tape.charAt(i) <= 'z') {
                    i++;
                }
                String word = tape.substring(from, i);
                all.add(new Token(NAMES.contains(word) ? "name" : KEYS.contains(word) ? word : "none", from, word));
            } else if (c >= '0' && c <= '9') {
                while (i < tape.length() && tape.charAt(i) >= '0' && tape.charAt(i) <= '9') {
                    i++;
                }
                all.add(new Token(i - from > 4 ? "none" : "number", from, tape.substring(from, i)));
            } else {
                all.add(new Token("();+-*<=".indexOf(c) >= 0 ? "" + c : "none", from, "" + c));
            }
        }
        all.add(new Token("end", tape.length(), ""));
        return all;
    }

    /** The place of the fault, or -1; by what may follow, token by token, with a stack of what is open. */
    static int fault(List<Token> tokens) {
        String[] order = {"fines", "admits", "sleeps"};
        int at = 0;
        for (String key : order) {
            if (!tokens.get(at).kind.equals(key)) {
                return tokens.get(at).place;
            }
            at++;
            Deque<String> open = new ArrayDeque<>();
            Deque<Boolean> compared = new ArrayDeque<>();
            compared.push(false);
            boolean wantsOne = true;
            boolean mayNot = true;
            while (true) {
                Token t = tokens.get(at);
                String k = t.kind;
                if (wantsOne) {
                    if (k.equals("name") || k.equals("number")) {
                        wantsOne = false;
                        closeSigns(open);
                    } else if (k.equals("(") || k.equals("-") || k.equals("not") && mayNot) {
                        if (open.size() == 5) {
                            return t.place;
                        }
                        open.push(k);
                        mayNot = !k.equals("-");
                        if (k.equals("(")) {
                            compared.push(false);
                        }
                    } else {
                        return t.place;
                    }
                } else if (k.equals("+") || k.equals("-") || k.equals("*")) {
                    wantsOne = true;
                    mayNot = false;
                } else if ((k.equals("<") || k.equals("=")) && !compared.peek()) {
                    compared.pop();
                    compared.push(true);
                    wantsOne = true;
                    mayNot = false;
                } else if (k.equals("and") || k.equals("or")) {
                    closeNots(open);
                    compared.pop();
                    compared.push(false);
                    wantsOne = true;
                    mayNot = true;
                } else if (k.equals(")")) {
                    closeNots(open);
                    if (open.isEmpty()) {
                        return t.place;
                    }
                    open.pop();
                    compared.pop();
                    closeSigns(open);
                } else if (k.equals(";")) {
                    closeNots(open);
                    if (!open.isEmpty()) {
                        return t.place;
                    }
                    at++;
                    break;
                } else {
                    return t.place;
                }
                at++;
            }
        }
        return tokens.get(at).kind.equals("end") ? -1 : tokens.get(at).place;
    }

    private static void closeSigns(Deque<String> open) {
        while (!open.isEmpty() && open.peek().equals("-")) {
            open.pop();
        }
    }

    private static void closeNots(Deque<String> open) {
        while (!open.isEmpty() && open.peek().equals("not")) {
            open.pop();
        }
    }

    static final class Text {
        final Expr[] parts = new Expr[3];
        private final List<Token> tokens;
        private int at = 0;

        Text(List<Token> tokens) {
            this.tokens = tokens;
            for (int p = 0; p < 3; p++) {
                at++;
                parts[p] = joined(0);
                at++;
            }
        }

        private boolean comes(String... kinds) {
            return Arrays.asList(kinds).contains(tokens.get(at).kind);
        }

        /** Levels: 0 or, 1 and, 2 not and comparisons, 3 sums, 4 products, 5 ones. */
        private Expr joined(int level) {
            String[][] signs = {{"or"}, {"and"}, {"<", "="}, {"+", "-"}, {"*"}};
            if (level == 2 && comes("not")) {
                at++;
                Expr e = joined(2);
                return (r, c, h) -> e.of(r, c, h) == 0 ? 1 : 0;
            }
            if (level == 5) {
                return one();
            }
            Expr left = joined(level + 1);
            while (comes(signs[level])) {
                String sign = tokens.get(at++).kind;
                Expr a = left;
                Expr b = joined(level + 1);
                left = (r, c, h) -> both(sign, a.of(r, c, h), b.of(r, c, h));
            }
            return left;
        }

        private Expr one() {
            Token t = tokens.get(at++);
            switch (t.kind) {
                case "-": {
                    Expr e = one();
                    return (r, c, h) -> -e.of(r, c, h);
                }
                case "(": {
                    Expr e = joined(0);
                    at++;
                    return e;
                }
                case "number": {
                    int value = Integer.parseInt(t.said);
                    return (r, c, h) -> value;
                }
                default:
                    return (r, c, h) -> named(t.said, r, c, h);
            }
        }

        private static int both(String sign, int a, int b) {
            switch (sign) {
                case "or": return a != 0 | b != 0 ? 1 : 0;
                case "and": return a != 0 & b != 0 ? 1 : 0;
                case "<": return a < b ? 1 : 0;
                case "=": return a == b ? 1 : 0;
                case "+": return a + b;
                case "-": return a - b;
                case "*": return a * b;
                default: throw new IllegalStateException(sign);
            }
        }

        private static int named(String name, Rug r, int c, int h) {
            switch (name) {
                case "column": return c % 6;
                case "row": return c / 6;
                case "hour": return h;
                case "guests": return r.guests;
                case "size": return r.size();
                case "more": return r.more;
                default: throw new IllegalStateException(name);
            }
        }
    }

    // ---- kinds

    class Rug {
        int more, from, to, guests;

        boolean liesOn(int c) {
            return c % 6 >= from % 6 && c % 6 <= to % 6 && c / 6 >= from / 6 && c / 6 <= to / 6;
        }

        boolean fringe(int c) {
            return c % 6 == from % 6 || c % 6 == to % 6 || c / 6 == from / 6 || c / 6 == to / 6;
        }

        int size() {
            int n = 0;
            for (int c = 0; c < 36; c++) {
                n += liesOn(c) ? 1 : 0;
            }
            return n;
        }

        int fined(int c, int h) {
            return says(0, this, c, h);
        }

        boolean admits(int c, int h) {
            return says(1, this, c, h) == 1;
        }

        boolean sleeps(int h) {
            return says(2, this, from, h) == 1;
        }
    }

    class Tartan extends Rug {
        @Override int fined(int c, int h) {
            return super.fined(c, h) + (fringe(c) ? 2 * more : 0);
        }
    }

    class Nurse extends Rug {
        @Override boolean admits(int c, int h) {
            return super.admits(c, h) && guests < more;
        }

        @Override boolean sleeps(int h) {
            return super.sleeps(h) || h == 14 || h == 15;
        }
    }

    class Slaver extends Tartan {
        @Override int fined(int c, int h) {
            return 2 * super.fined(c, h);
        }

        @Override boolean admits(int c, int h) {
            return true;
        }
    }

    class League extends Nurse {
        @Override int fined(int c, int h) {
            return fringe(c) ? 0 : super.fined(c, h) / 2;
        }

        @Override boolean sleeps(int h) {
            return !super.sleeps(h);
        }
    }

    class Ants extends Rug {
        @Override int fined(int c, int h) {
            return more;
        }

        @Override boolean sleeps(int h) {
            return false;
        }
    }

    Rug ofKind(int kind) {
        switch (kind) {
            case 0: return new Rug();
            case 1: return new Tartan();
            case 2: return new Nurse();
            case 3: return new Slaver();
            case 4: return new League();
            case 5: return new Ants();
            default: throw new IllegalArgumentException();
        }
    }

    static final List<Class<? extends Rug>> CLASSES =
        Arrays.asList(Rug.class, Tartan.class, Nurse.class, Slaver.class, League.class, Ants.class);

    // ---- state

    static final class Kept {
        int hour, law;
        final List<int[]> rugs = new ArrayList<>();
    }

    List<Rug> rugs = new ArrayList<>();
    final List<Text> texts = new ArrayList<>();
    String tape = "";
    int hour = 12, law = 0;
    Kept kept = null;
    final Object[] sheets = new Object[4];

    public Plain() {
        texts.add(new Text(tokens("fines 1 + guests ; admits guests < 20 ; sleeps hour < 6 ;")));
    }

    int says(int part, Rug r, int c, int h) {
        int v = texts.get(law).parts[part].of(r, c, h);
        return part == 0 ? Math.min(99, Math.max(0, v)) : v != 0 ? 1 : 0;
    }

    Rug ruler(int c, int h) {
        Rug found = null;
        for (Rug r : rugs) {
            if (r.liesOn(c) && !r.sleeps(h)) {
                found = r;
            }
        }
        return found;
    }

    int number(Rug r) {
        return rugs.indexOf(r);
    }

    int fined(int c, int h) {
        Rug r = ruler(c, h);
        return r == null ? 0 : r.fined(c, h);
    }

    boolean letOn(int c) {
        Rug r = ruler(c, hour);
        return r == null || r.admits(c, hour);
    }

    boolean border(int a, int b) {
        return ruler(a, hour) != ruler(b, hour);
    }

    static boolean isCell(int c) {
        return c >= 0 && c <= 35;
    }

    static boolean beside(int a, int b) {
        return Math.abs(a - b) == 6 || Math.abs(a - b) == 1 && a / 6 == b / 6;
    }

    static boolean corners(int v) {
        int a = Math.floorDiv(v, 100);
        int b = Math.floorMod(v, 100);
        return isCell(a) && isCell(b) && b % 6 >= a % 6 && b / 6 >= a / 6;
    }

    boolean isRug(int r) {
        return r >= 0 && r < rugs.size();
    }

    static long lowest(long above, long below, int part) {
        for (long d = below; d > 1; d--) {
            if (above % d == 0 && below % d == 0) {
                above /= d;
                below /= d;
            }
        }
        return part == 0 ? above : below;
    }

    // ---- the common, the law, rugs

    public int count(int what) {
        int[] all = {rugs.size(), hour, texts.size(), law, tape.length()};
        return what >= 0 && what < all.length ? all[what] : BAD;
    }

    public int strikes(int h) {
        if (h < 0 || h > 23) {
            return BAD;
        }
        int was = hour;
        hour = h;
        return was;
    }

    public int feed(int n, int a, int b, int c, int d, int e) {
        int[] five = {a, b, c, d, e};
        for (int v : five) {
            if (n < 1 || n > 5 || v < 0 || v > 255) {
                return BAD;
            }
        }
        if (tape.length() + n > 160) {
            return FULL;
        }
        for (int i = 0; i < n; i++) {
            tape += (char) five[i];
        }
        return tape.length();
    }

    public int text() {
        if (texts.size() == 6) {
            return FULL;
        }
        List<Token> tokens = tokens(tape);
        tape = "";
        int fault = fault(tokens);
        if (fault >= 0) {
            return -100 - fault;
        }
        texts.add(new Text(tokens));
        return texts.size() - 1;
    }

    public int force(int t) {
        if (t < 0 || t >= texts.size()) {
            return BAD;
        }
        int was = law;
        law = t;
        return was;
    }

    public int asks(int part, int r, int c) {
        return part < 0 || part > 2 || !isRug(r) || !isCell(c) ? BAD : says(part, rugs.get(r), c, hour);
    }

    public int spread(int kindMore, int corners) {
        if (kindMore < 0 || kindMore > 59 || !corners(corners)) {
            return BAD;
        }
        if (rugs.size() == 6) {
            return FULL;
        }
        Rug r = ofKind(kindMore / 10);
        r.more = kindMore % 10;
        r.from = corners / 100;
        r.to = corners % 100;
        rugs.add(r);
        return rugs.size() - 1;
    }

    public int put(int r, int what, int v) {
        if (!isRug(r)) {
            return -5;
        }
        Rug rug = rugs.get(r);
        if (what == 0 && corners(v)) {
            int was = 100 * rug.from + rug.to;
            rug.from = v / 100;
            rug.to = v % 100;
            return was;
        }
        if (what == 1 && v >= 0 && v <= 99) {
            int was = rug.guests;
            rug.guests = v;
            return was;
        }
        return -7;
    }

    public int told(int r, int what) {
        if (!isRug(r)) {
            return -5;
        }
        Rug rug = rugs.get(r);
        switch (what) {
            case 0: return 100 * rug.from + rug.to;
            case 1: return rug.guests;
            case 2: return CLASSES.indexOf(rug.getClass());
            case 3: return rug.more;
            case 4: return rug.size();
            case 5: return Long.bitCount(rules(r));
            case 6: return rug.sleeps(hour) ? 1 : 0;
            default: return -7;
        }
    }

    // ---- who rules where, walks

    public int over(int c, int what) {
        if (!isCell(c)) {
            return -5;
        }
        switch (what) {
            case 0: return number(ruler(c, hour));
            case 1: return fined(c, hour);
            case 2: return letOn(c) ? 1 : 0;
            case 3: return (int) rugs.stream().filter(r -> r.liesOn(c)).count();
            default: return -7;
        }
    }

    public long rules(int r) {
        if (r < -1 || r >= rugs.size()) {
            return NO;
        }
        long cells = 0;
        for (int c = 0; c < 36; c++) {
            if (number(ruler(c, hour)) == r) {
                cells += 1L << c;
            }
        }
        return cells;
    }

    private int refuses(int s) {
        return s < 0 || s > 3 ? BAD : sheets[s] == null ? -11 : 0;
    }

    private int length(int s) {
        return java.lang.reflect.Array.getLength(sheets[s]);
    }

    private int read(int s, int i) {
        return java.lang.reflect.Array.getInt(sheets[s], i);
    }

    private int refusesWalk(int s) {
        if (refuses(s) != 0) {
            return refuses(s);
        }
        for (int i = 0; i < length(s); i++) {
            if (!isCell(read(s, i)) || i > 0 && !beside(read(s, i - 1), read(s, i))) {
                return BAD;
            }
        }
        return 0;
    }

    private int denied(int s) {
        for (int i = 0; i < length(s); i++) {
            if ((i == 0 || border(read(s, i - 1), read(s, i))) && !letOn(read(s, i))) {
                return i;
            }
        }
        return -1;
    }

    private int[] cellsAhead(int s) {
        int n = denied(s) < 0 ? length(s) : denied(s);
        int[] cells = new int[n];
        for (int i = 0; i < n; i++) {
            cells[i] = read(s, i);
        }
        return cells;
    }

    private int fines(int[] cells) {
        return Arrays.stream(cells).map(c -> fined(c, hour)).sum();
    }

    private int bordersOf(int[] cells) {
        int n = 0;
        for (int i = 1; i < cells.length; i++) {
            n += border(cells[i - 1], cells[i]) ? 1 : 0;
        }
        return n;
    }

    private int rulersOf(int[] cells) {
        int bits = 0;
        for (int c : cells) {
            bits |= ruler(c, hour) == null ? 0 : 1 << number(ruler(c, hour));
        }
        return bits;
    }

    public int walk(int s, int what) {
        if (refusesWalk(s) != 0) {
            return refusesWalk(s);
        }
        int[] cells = cellsAhead(s);
        switch (what) {
            case 0: return denied(s);
            case 1: return fines(cells);
            case 2: return bordersOf(cells);
            case 3: return rulersOf(cells);
            default: return -7;
        }
    }

    public int visit(int s) {
        if (refusesWalk(s) != 0) {
            return refusesWalk(s);
        }
        if (denied(s) >= 0) {
            return STATE;
        }
        int[] cells = cellsAhead(s);
        int fines = fines(cells);
        int rulers = rulersOf(cells);
        for (int r = 0; r < rugs.size(); r++) {
            if ((rulers & 1 << r) != 0) {
                rugs.get(r).guests = Math.min(99, rugs.get(r).guests + 1);
            }
        }
        return fines;
    }

    public int ball(int c, int way, int what) {
        if (!isCell(c)) {
            return -5;
        }
        if (way < 0 || way > 3) {
            return -7;
        }
        int step = new int[] {1, -1, 6, -6}[way];
        int steps = new int[] {5 - c % 6, c % 6, 5 - c / 6, c / 6}[way];
        int[] cells = new int[steps + 1];
        for (int i = 0; i <= steps; i++) {
            cells[i] = c + i * step;
        }
        switch (what) {
            case 0: return fines(cells);
            case 1: return rulersOf(cells);
            case 2: return bordersOf(cells);
            default: return -7;
        }
    }

    public int way(int cells, int what) {
        int a = Math.floorDiv(cells, 100);
        int b = Math.floorMod(cells, 100);
        if (!isCell(a) || !isCell(b) || what < 0 || what > 2) {
            return BAD;
        }
        PriorityQueue<int[]> open = new PriorityQueue<>((p, q) -> Integer.compare(p[0], q[0]));
        boolean[] done = new boolean[36];
        if (letOn(a)) {
            open.add(new int[] {what == 0 ? fined(a, hour) : what == 1 ? 0 : 1, a});
        }
        while (!open.isEmpty()) {
            int[] least = open.poll();
            if (least[1] == b) {
                return least[0];
            }
            if (done[least[1]]) {
                continue;
            }
            done[least[1]] = true;
            for (int c = 0; c < 36; c++) {
                if (beside(least[1], c) && letOn(c)) {
                    int more = what == 0 ? fined(c, hour) : what == 2 || border(least[1], c) ? 1 : 0;
                    open.add(new int[] {least[0] + more, c});
                }
            }
        }
        return -1;
    }

    // ---- borders, leagues

    public int borders(int r) {
        if (!isRug(r)) {
            return -5;
        }
        int bits = 0;
        for (int q = 0; q < rugs.size(); q++) {
            for (int a = 0; a < 36; a++) {
                for (int b = 0; b < 36; b++) {
                    if (q != r && beside(a, b) && (rules(r) >> a & 1) == 1 && (rules(q) >> b & 1) == 1) {
                        bits |= 1 << q;
                    }
                }
            }
        }
        return bits;
    }

    public int league(int r, int what) {
        if (!isRug(r)) {
            return -5;
        }
        Deque<Integer> open = new ArrayDeque<>();
        int bits = 0;
        int cells = 0;
        if (rules(r) != 0) {
            open.add(r);
            bits |= 1 << r;
        }
        while (!open.isEmpty()) {
            int q = open.poll();
            cells += Long.bitCount(rules(q));
            int beside = borders(q);
            for (int p = 0; p < rugs.size(); p++) {
                if ((beside & 1 << p) != 0 && (bits & 1 << p) == 0) {
                    bits |= 1 << p;
                    open.add(p);
                }
            }
        }
        return what == 0 ? bits : what == 1 ? cells : -7;
    }

    // ---- what is best

    public int place(int r, int what) {
        if (!isRug(r)) {
            return -5;
        }
        Rug rug = rugs.get(r);
        int from = rug.from;
        int to = rug.to;
        int most = -1;
        int best = -1;
        for (int row = 0; row + to / 6 - from / 6 <= 5; row++) {
            for (int column = 0; column + to % 6 - from % 6 <= 5; column++) {
                rug.from = 6 * row + column;
                rug.to = 6 * (row + to / 6 - from / 6) + column + to % 6 - from % 6;
                if (Long.bitCount(rules(r)) > most) {
                    most = Long.bitCount(rules(r));
                    best = 100 * rug.from + rug.to;
                }
            }
        }
        rug.from = from;
        rug.to = to;
        return what == 0 ? best : what == 1 ? most : -7;
    }

    private int finesOfAll(int h) {
        int sum = 0;
        for (int c = 0; c < 36; c++) {
            sum += fined(c, h);
        }
        return sum;
    }

    public int freest(int what) {
        int best = 0;
        for (int h = 1; h < 24; h++) {
            best = finesOfAll(h) < finesOfAll(best) ? h : best;
        }
        return what == 0 ? best : what == 1 ? finesOfAll(best) : BAD;
    }

    public int fold(int what) {
        int best = -1;
        int least = 0;
        List<Rug> all = rugs;
        for (int r = 0; r < all.size(); r++) {
            rugs = new ArrayList<>(all);
            rugs.remove(r);
            int fines = finesOfAll(hour);
            if (best < 0 || fines < least) {
                least = fines;
                best = r;
            }
        }
        rugs = all;
        return what == 0 ? best : what == 1 ? least : BAD;
    }

    public long share(int r, int part) {
        return !isRug(r) || part < 0 || part > 1 ? NO : lowest(Long.bitCount(rules(r)), 36, part);
    }

    public long mean(int r, int part) {
        if (!isRug(r) || part < 0 || part > 1 || rules(r) == 0) {
            return NO;
        }
        int sum = 0;
        for (int c = 0; c < 36; c++) {
            sum += (rules(r) >> c & 1) == 1 ? fined(c, hour) : 0;
        }
        return lowest(sum, Long.bitCount(rules(r)), part);
    }

    // ---- told fines

    private int refusesFines(int s, int c) {
        return refuses(s) != 0 ? refuses(s) : length(s) > 24 ? BAD : !isCell(c) ? -5 : 0;
    }

    public int judge(int s, int c) {
        if (refusesFines(s, c) != 0) {
            return refusesFines(s, c);
        }
        for (int h = 0; h < length(s); h++) {
            if (read(s, h) != fined(c, h)) {
                return h;
            }
        }
        return -1;
    }

    public int kinds(int s, int c, int r, int sort) {
        if (refusesFines(s, c) != 0) {
            return refusesFines(s, c);
        }
        if (!isRug(r)) {
            return -6;
        }
        Rug was = rugs.get(r);
        int bits = 0;
        for (int guess = 0; guess < (sort == 0 ? 6 : 10); guess++) {
            Rug other = ofKind(sort == 0 ? guess : CLASSES.indexOf(was.getClass()));
            other.from = was.from;
            other.to = was.to;
            other.guests = was.guests;
            other.more = sort == 0 ? was.more : guess;
            rugs.set(r, other);
            bits |= judge(s, c) == -1 ? 1 << guess : 0;
        }
        rugs.set(r, was);
        return sort == 0 || sort == 1 ? bits : -7;
    }

    public int crowds(int s, int c, int r, int what) {
        if (refusesFines(s, c) != 0) {
            return refusesFines(s, c);
        }
        if (!isRug(r)) {
            return -6;
        }
        int was = rugs.get(r).guests;
        List<Integer> fitting = new ArrayList<>();
        for (int guess = 0; guess < 100; guess++) {
            rugs.get(r).guests = guess;
            if (judge(s, c) == -1) {
                fitting.add(guess);
            }
        }
        rugs.get(r).guests = was;
        return what == 0 ? fitting.size() : what != 1 ? -7 : fitting.isEmpty() ? -1 : fitting.get(0);
    }

    public long where(int s) {
        if (refusesFines(s, 0) != 0) {
            return NO;
        }
        long bits = 0;
        for (int c = 0; c < 36; c++) {
            bits |= judge(s, c) == -1 ? 1L << c : 0;
        }
        return bits;
    }

    public int laws(int s, int c) {
        if (refusesFines(s, c) != 0) {
            return refusesFines(s, c);
        }
        int was = law;
        int bits = 0;
        for (law = 0; law < texts.size(); law++) {
            bits |= judge(s, c) == -1 ? 1 << law : 0;
        }
        law = was;
        return bits;
    }

    public int film(int s, int c, int n) {
        if (s < 0 || s > 3) {
            return BAD;
        }
        if (!isCell(c)) {
            return -5;
        }
        if (n < 0 || n > 24) {
            return -7;
        }
        short[] film = new short[n];
        for (int h = 0; h < n; h++) {
            film[h] = (short) fined(c, h);
        }
        sheets[s] = film;
        return n;
    }

    // ---- walks by lots

    private int[] stroll(long seed, int cellSteps) {
        int at = cellSteps / 100;
        int[] fineAndBorders = new int[2];
        java.math.BigInteger lot = java.math.BigInteger.valueOf(seed + 1);
        for (int i = 0; i < cellSteps % 100; i++) {
            fineAndBorders[0] += fined(at, hour);
            lot = lot.multiply(java.math.BigInteger.valueOf(48271)).mod(java.math.BigInteger.valueOf(2147483647));
            int column = at % 6;
            int row = at / 6;
            switch (lot.intValue() % 4) {
                case 0: column++; break;
                case 1: column--; break;
                case 2: row++; break;
                default: row--;
            }
            if (column >= 0 && column <= 5 && row >= 0 && row <= 5) {
                fineAndBorders[1] += border(at, 6 * row + column) ? 1 : 0;
                at = 6 * row + column;
            }
        }
        return new int[] {fineAndBorders[0], at, fineAndBorders[1]};
    }

    public int drawn(int seed, int cellSteps, int what) {
        if (seed < 0 || seed > 99999 || cellSteps < 0 || cellSteps > 3599 || what < 0 || what > 2) {
            return BAD;
        }
        return stroll(seed, cellSteps)[what];
    }

    public long odds(int seed, int seeds, int cellSteps, int least, int part) {
        if (seed < 0 || seed > 99999 || seeds < 1 || seeds > 40 || cellSteps < 0 || cellSteps > 3599) {
            return NO;
        }
        if (least < 0 || least > 99999 || part < 0 || part > 1) {
            return NO;
        }
        int n = 0;
        for (int i = 0; i < seeds; i++) {
            n += stroll(seed + i, cellSteps)[0] >= least ? 1 : 0;
        }
        return lowest(n, seeds, part);
    }

    public int image() {
        kept = new Kept();
        kept.hour = hour;
        kept.law = law;
        for (Rug r : rugs) {
            kept.rugs.add(new int[] {r.from, r.to, r.guests});
        }
        return rugs.size();
    }

    public int back() {
        if (kept == null) {
            return STATE;
        }
        hour = kept.hour;
        law = kept.law;
        rugs = new ArrayList<>(rugs.subList(0, kept.rugs.size()));
        for (int i = 0; i < rugs.size(); i++) {
            rugs.get(i).from = kept.rugs.get(i)[0];
            rugs.get(i).to = kept.rugs.get(i)[1];
            rugs.get(i).guests = kept.rugs.get(i)[2];
        }
        return rugs.size();
    }

    // ---- the host

    public int sheet(int s, int sort, int n) {
        if (s < 0 || s > 3 || sort < -1 || sort > 2 || sort >= 0 && n > 40) {
            return BAD;
        }
        if (sort >= 0 && n < 0) {
            return -14;
        }
        sheets[s] = sort < 0 ? null : sort == 0 ? new byte[n] : sort == 1 ? new short[n] : new int[n];
        return 1;
    }

    public int cell(int s, int i, int v) {
        if (refuses(s) != 0) {
            return refuses(s);
        }
        if (i < 0 || i >= length(s)) {
            return -12;
        }
        if (sheets[s] instanceof byte[]) {
            ((byte[]) sheets[s])[i] = (byte) v;
        } else if (sheets[s] instanceof short[]) {
            ((short[]) sheets[s])[i] = (short) v;
        } else {
            ((int[]) sheets[s])[i] = v;
        }
        return 1;
    }

    public int copy(int s, int i, int other, int j, int n) {
        if (s < 0 || s > 3 || other < 0 || other > 3) {
            return BAD;
        }
        try {
            System.arraycopy(sheets[s], i, sheets[other], j, n);
            return n;
        } catch (NullPointerException e) {
            return -11;
        } catch (ArrayStoreException e) {
            return -13;
        } catch (IndexOutOfBoundsException e) {
            return -12;
        }
    }

    public int rugsBy(int s, int sort, int from1, int n) {
        if (s < 0 || s > 3 || sort < 0 || sort > 2 || n < 0 || n > 6) {
            return BAD;
        }
        if (sheets[s] == null) {
            return -11;
        }
        if (sheets[s].getClass() != new Class<?>[] {byte[].class, short[].class, int[].class}[sort]) {
            return -13;
        }
        int came = 0;
        try {
            for (int i = 0; i < n; i++) {
                came += spread(read(s, from1 + 2 * i), read(s, from1 + 2 * i + 1)) >= 0 ? 1 : 0;
            }
        } catch (IndexOutOfBoundsException e) {
            return -12;
        }
        return came;
    }

    public int taken(int i, int kind) {
        if (kind < 0 || kind > 6) {
            return BAD;
        }
        if (i < 0 || i > 11) {
            return -12;
        }
        if (!isRug(i % 6)) {
            return -11;
        }
        Object lies = i < 6 ? rugs.get(i) : (Object) rugs.get(i - 6).guests;
        if (kind == 6) {
            return lies instanceof Integer ? (Integer) lies : -13;
        }
        return CLASSES.get(kind).isInstance(lies) ? i : -13;
    }
}
