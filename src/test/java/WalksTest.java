/** Promises 11 .. 18: who rules where, walks, borders, leagues. */
public final class WalksTest {
    private static final Due due = new Due("walks");
    private static final long ALL = (1L << 36) - 1;

    public static void main(String[] args) {
        finesByKind();
        admitsByKind();
        over();
        rules();
        walks();
        walksAlongOneRug();
        visits();
        balls();
        ways();
        waysOverBorders();
        borders();
        leagues();
        due.end();
    }

    /** Rug 0 (guests 4: 5) on 0 1 6 7, ants 1 (7) on 2 3 8 9 14 15, a nurse that admits none (1) on 24 .. 35. */
    private static RugIsJurisdiction three() {
        RugIsJurisdiction x = new RugIsJurisdiction();
        x.spread(0, 7);
        x.put(0, 1, 4);
        x.spread(57, 215);
        x.spread(20, 2435);
        return x;
    }

    private static void finesByKind() {
        int[][] inAndFringe = {{11, 11}, {11, 17}, {11, 11}, {22, 34}, {5, 0}, {3, 3}};
        for (int kind = 0; kind < 6; kind++) {
            RugIsJurisdiction x = new RugIsJurisdiction();
            x.spread(10 * kind + 3, 728);
            x.put(0, 1, 10);
            x.strikes(kind == 4 ? 14 : 12);
            for (int c = 7; c <= 28; c++) {
                if (c % 6 < 1 || c % 6 > 4) {
                    due.is("kind " + kind + " does not rule " + c, x.over(c, 1), 0);
                    continue;
                }
                boolean fringe = c % 6 == 1 || c % 6 == 4 || c / 6 == 1 || c / 6 == 4;
                due.is("kind " + kind + " fines on " + c, x.over(c, 1), inAndFringe[kind][fringe ? 1 : 0]);
            }
        }
        RugIsJurisdiction y = Due.under("fines 500 ; admits 1 ; sleeps 0 ;");
        y.spread(39, 0);
        due.is("bounded ahead of the kind", y.over(0, 1), 234);
        y.force(Due.text(y, "fines -50 ; admits 1 ; sleeps 0 ;"));
        due.is("bounded below, too", y.over(0, 1), 36);
        RugIsJurisdiction z = Due.under("fines 99 ; admits 1 ; sleeps 1 ;");
        z.spread(40, 728);
        due.is("half, cut", z.over(14, 1), 49);
    }

    private static void admitsByKind() {
        // By kind, whether it admits with 2, 3, 19, 20 guests, more being 3.
        int[][] admits = {{1, 1, 1, 0}, {1, 1, 1, 0}, {1, 0, 0, 0}, {1, 1, 1, 1}, {1, 0, 0, 0}, {1, 1, 1, 0}};
        int[] guests = {2, 3, 19, 20};
        for (int kind = 0; kind < 6; kind++) {
            RugIsJurisdiction x = new RugIsJurisdiction();
            x.spread(10 * kind + 3, 0);
            x.strikes(kind == 4 ? 14 : 12);
            for (int i = 0; i < 4; i++) {
                x.put(0, 1, guests[i]);
                due.is("kind " + kind + " admits, guests " + guests[i], x.over(0, 2), admits[kind][i]);
            }
        }
        RugIsJurisdiction y = Due.under("fines 1 ; admits guests ; sleeps 0 ;");
        y.spread(25, 0);
        due.is("a nurse as a rug, not", y.over(0, 2), 0);
        y.put(0, 1, 1);
        due.is("a nurse, both so", y.over(0, 2), 1);
        y.spread(30, 0);
        due.is("a slaver always", y.over(0, 2), 1);
    }

    private static void over() {
        RugIsJurisdiction x = three();
        int[][] want = {{0, 0, 5, 1, 1}, {2, 1, 7, 1, 1}, {30, 2, 1, 0, 1}, {20, -1, 0, 1, 0}};
        for (int[] w : want) {
            for (int what = 0; what < 4; what++) {
                due.is("over(" + w[0] + ", " + what + ")", x.over(w[0], what), w[what + 1]);
            }
        }
        x.spread(40, 35);
        due.is("one asleep lies there, too", x.over(2, 3), 2);
        due.is("and does not rule", x.over(2, 0), 1);
        x.spread(0, 35);
        due.is("the last one rules", x.over(2, 0), 4);
        due.is("all lie there", x.over(2, 3), 3);
        due.is("no cell", x.over(36, 0), -5);
        due.is("no cell first", x.over(-1, 4), -5);
        due.is("what 4", x.over(0, 4), -7);
        due.is("what -1", x.over(0, -1), -7);
    }

    private static void rules() {
        RugIsJurisdiction x = three();
        due.is("rules(0)", x.rules(0), Due.bits(0, 1, 6, 7));
        due.is("rules(1)", x.rules(1), Due.bits(2, 3, 8, 9, 14, 15));
        due.is("rules(2)", x.rules(2), 0xfff000000L);
        due.is("rules(-1)", x.rules(-1), ALL & ~(x.rules(0) | x.rules(1) | x.rules(2)));
        due.is("rules(3)", x.rules(3), RugIsJurisdiction.NO);
        due.is("rules(-2)", x.rules(-2), RugIsJurisdiction.NO);
        x.strikes(3);
        due.is("asleep", x.rules(0), 0);
        due.is("ants never", x.rules(1), Due.bits(2, 3, 8, 9, 14, 15));
    }

    private static void walk(RugIsJurisdiction x, int denied, int fined, int borders, int rugs, int... cells) {
        for (int sort = 0; sort < 3; sort++) {
            Due.row(x, 1, sort, cells);
            due.is("denied", x.walk(1, 0), denied);
            due.is("fined", x.walk(1, 1), fined);
            due.is("borders", x.walk(1, 2), borders);
            due.is("rugs", x.walk(1, 3), rugs);
        }
    }

    private static void walks() {
        RugIsJurisdiction x = three();
        due.is("no sheet -1", x.walk(-1, 9), -2);
        due.is("no sheet 4", x.walk(4, 0), -2);
        due.is("missing", x.walk(1, 9), -11);
        walk(x, 6, 31, 2, 3, 0, 1, 2, 8, 14, 20, 26, 27);
        walk(x, -1, 31, 2, 3, 0, 1, 2, 8, 14, 20);
        walk(x, 0, 0, 0, 0, 24, 25);
        walk(x, -1, 0, 0, 0);
        walk(x, -1, 15, 0, 1, 0, 1, 0);
        walk(x, 1, 0, 0, 0, 18, 24, 18, 24);
        due.is("what 4", x.walk(1, 4), -7);
        due.is("what -1", x.walk(1, -1), -7);
        due.is("what least", x.walk(1, Integer.MIN_VALUE), -7);
        int[][] none = {{36}, {-1}, {0, 0}, {0, 2}, {5, 6}, {6, 5}, {0, 7}, {30, 36}, {0, -6}, {0, 1, 2, 4}};
        for (int[] cells : none) {
            Due.row(x, 1, 2, cells);
            due.is("no walk", x.walk(1, 9), -2);
        }
        Due.row(x, 1, 0, 0, 1, 258);
        due.is("a byte's lowest 8 bits", x.walk(1, 0), -1);
    }

    private static void walksAlongOneRug() {
        RugIsJurisdiction x = Due.under("fines 2 ; admits column < 2 ; sleeps 0 ;");
        x.spread(0, 5);
        walk(x, -1, 12, 0, 1, 0, 1, 2, 3, 4, 5);
        walk(x, 0, 0, 0, 0, 5, 4, 3, 2, 1, 0);
        walk(x, 1, 0, 0, 0, 11, 5);
        walk(x, -1, 2, 1, 1, 7, 1);
    }

    private static void visits() {
        RugIsJurisdiction x = three();
        due.is("no sheet", x.visit(4), -2);
        due.is("missing", x.visit(0), -11);
        Due.row(x, 0, 0, 0, 2);
        due.is("no walk", x.visit(0), -2);
        Due.row(x, 0, 0, 18, 24);
        due.is("not let on", x.visit(0), -3);
        due.is("no guest came", x.told(2, 1), 0);
        Due.row(x, 0, 0, 0, 1, 2, 8, 14, 20);
        due.is("told ahead", x.visit(0), 31);
        due.is("once each", x.told(0, 1), 5);
        due.is("once each", x.told(1, 1), 1);
        due.is("not those elsewhere", x.told(2, 1), 0);
        due.is("fined more now", x.visit(0), 33);
        x.put(1, 1, 98);
        Due.row(x, 0, 0, 20);
        due.is("by none", x.visit(0), 0);
        Due.row(x, 0, 0);
        due.is("an empty walk", x.visit(0), 0);
        due.is("changes nothing", x.told(1, 1), 98);
        x.put(1, 1, 19);
        Due.row(x, 0, 0, 20, 14);
        due.is("the twentieth", x.visit(0), 7);
        due.is("is too many for the next", x.visit(0), -3);
        RugIsJurisdiction y = new RugIsJurisdiction();
        y.spread(30, 0);
        y.put(0, 1, 98);
        Due.row(y, 0, 0, 0);
        due.is("a slaver", y.visit(0), 198);
        due.is("99", y.told(0, 1), 99);
        y.visit(0);
        due.is("99 at most", y.told(0, 1), 99);
    }

    private static void ball(RugIsJurisdiction x, int c, int way, int fined, int rugs, int borders) {
        due.is("ball(" + c + ", " + way + ", 0)", x.ball(c, way, 0), fined);
        due.is("ball(" + c + ", " + way + ", 1)", x.ball(c, way, 1), rugs);
        due.is("ball(" + c + ", " + way + ", 2)", x.ball(c, way, 2), borders);
    }

    private static void balls() {
        RugIsJurisdiction x = three();
        ball(x, 0, 0, 24, 3, 2);
        ball(x, 5, 1, 24, 3, 2);
        ball(x, 0, 2, 12, 5, 2);
        ball(x, 30, 3, 12, 5, 2);
        ball(x, 35, 0, 1, 4, 0);
        ball(x, 0, 1, 5, 1, 0);
        ball(x, 3, 3, 7, 2, 0);
        ball(x, 32, 2, 1, 4, 0);
        ball(x, 8, 0, 14, 2, 1);
        ball(x, 20, 1, 0, 0, 0);
        due.is("no cell", x.ball(36, 4, 0), -5);
        due.is("no cell", x.ball(-1, 0, 0), -5);
        due.is("way 4", x.ball(0, 4, 0), -7);
        due.is("way -1", x.ball(0, -1, 0), -7);
        due.is("what 3", x.ball(0, 0, 3), -7);
        due.is("what -1", x.ball(0, 0, -1), -7);
    }

    private static void way(RugIsJurisdiction x, int cells, int fined, int borders, int length) {
        due.is("way(" + cells + ", 0)", x.way(cells, 0), fined);
        due.is("way(" + cells + ", 1)", x.way(cells, 1), borders);
        due.is("way(" + cells + ", 2)", x.way(cells, 2), length);
    }

    private static void ways() {
        RugIsJurisdiction x = three();
        way(x, 3, 17, 1, 4);
        way(x, 300, 17, 1, 4);
        way(x, 0, 5, 0, 1);
        way(x, 2020, 0, 0, 1);
        way(x, 1823, 0, 0, 6);
        way(x, 24, -1, -1, -1);
        way(x, 2400, -1, -1, -1);
        way(x, 2424, -1, -1, -1);
        way(x, 2425, -1, -1, -1);
        for (int cells : new int[] {-1, 36, 3600, 99, 3536, -100, Integer.MIN_VALUE, Integer.MAX_VALUE}) {
            due.is("way(" + cells + ", 0)", x.way(cells, 0), -2);
        }
        due.is("what 3", x.way(0, 3), -2);
        due.is("what -1", x.way(0, -1), -2);
        RugIsJurisdiction y = Due.under("fines 2 ; admits column < 2 ; sleeps 0 ;");
        y.spread(0, 5);
        way(y, 5, -1, -1, -1);
        way(y, 1, 4, 0, 2);
        // A wall of a nurse from edge to edge, then one with a gap.
        RugIsJurisdiction z = new RugIsJurisdiction();
        z.spread(20, 232);
        way(z, 5, -1, -1, -1);
        z.put(0, 0, 226);
        way(z, 5, 0, 0, 16);
    }

    private static void waysOverBorders() {
        RugIsJurisdiction x = new RugIsJurisdiction();
        x.spread(51, 101);
        x.spread(52, 202);
        x.spread(53, 303);
        // Across the three: 4 borders; around them by row 1: none.
        way(x, 4, 0, 0, 5);
        x.spread(59, 611);
        x.put(3, 1, 0);
        // Now row 1 is ants' (9 each): around costs one border in, one out.
        way(x, 4, 6, 2, 5);
        x.put(3, 0, 1217);
        way(x, 4, 0, 0, 5);
    }

    private static void borders() {
        RugIsJurisdiction x = three();
        due.is("borders(0)", x.borders(0), 2);
        due.is("borders(1)", x.borders(1), 1);
        due.is("borders(2)", x.borders(2), 0);
        due.is("no rug", x.borders(3), -5);
        due.is("no rug", x.borders(-1), -5);
        x.put(2, 0, 1218);
        due.is("beside by rows", x.borders(2), 1);
        due.is("both", x.borders(0), 6);
        x.put(2, 0, 1111);
        due.is("5 and 6 are not beside", x.borders(2), 0);
        x.put(2, 0, 1010);
        due.is("9 and 10 are", x.borders(2), 2);
        x.put(2, 0, 22);
        due.is("corner to corner is not", x.borders(2), 0);
        x.strikes(0);
        due.is("asleep", x.borders(0), 0);
    }

    private static void leagues() {
        RugIsJurisdiction x = three();
        due.is("league(0, 0)", x.league(0, 0), 3);
        due.is("league(0, 1)", x.league(0, 1), 10);
        due.is("league(1, 0)", x.league(1, 0), 3);
        due.is("league(2, 0)", x.league(2, 0), 4);
        due.is("league(2, 1)", x.league(2, 1), 12);
        x.strikes(0);
        due.is("rules no cell", x.league(0, 0), 0);
        due.is("rules no cell", x.league(0, 1), 0);
        due.is("alone now", x.league(1, 0), 2);
        due.is("what 2", x.league(0, 2), -7);
        due.is("what -1", x.league(0, -1), -7);
        due.is("no rug first", x.league(3, 2), -5);
        due.is("no rug", x.league(-1, 0), -5);
        // Six columns, hanging together from the last one to the first.
        RugIsJurisdiction y = new RugIsJurisdiction();
        int[] columns = {0, 5, 2, 4, 1, 3};
        for (int column : columns) {
            y.spread(50, 100 * column + 30 + column);
        }
        due.is("through others", y.league(0, 0), 63);
        due.is("through others", y.league(1, 1), 36);
        y.put(4, 0, 0);
        due.is("still by cell 0", y.league(0, 0), 17);
        due.is("the others", y.league(1, 0), 46);
    }
}
