/** What the document's terms name at the edges: cells, hours, rugs, the fringe, kinds, who rules, who is let on. */
public final class TermsBoundsTest {
    private static final Due due = new Due("terms, bounds");
    private static final int RUG = 0, TARTAN = 1, NURSE = 2, SLAVER = 3, LEAGUE = 4, ANTS = 5;
    private static final String COLUMN_ROW = "fines column + 6 * row ; admits 1 ; sleeps 0 ;";

    public static void main(String[] args) {
        columnsAndRows();
        beside();
        whereOneLies();
        fringe();
        guestsAsOneComes();
        rugFines();
        tartanFines();
        slaverFines();
        leagueFines();
        antsFine();
        finesAreBoundedAheadOfTheKind();
        nurseAdmits();
        leagueAdmits();
        slaverAdmits();
        theOthersAdmit();
        sleepsByAlways();
        sleepsByNever();
        sleepsByTheHour();
        sleepsByTheCellFromWhichItLies();
        theLastOneThatDoesNotSleepRules();
        ruledByNone();
        letOnAtTheFirstCellAndOverBorders();
        bordersOfNone();
        due.end();
    }

    private static void columnsAndRows() {
        due.by("CELL modulo 6 is the COLUMN, CELL by 6 (cut) the ROW");
        RugIsJurisdiction x = Due.under(COLUMN_ROW);
        x.spread(0, 35);
        for (int c = 0; c < 36; c++) {
            due.is("column + 6 * row of " + c, x.over(c, 1), c);
        }
        x.force(Due.text(x, "fines column ; admits row ; sleeps 0 ;"));
        for (int c : new int[] {0, 5, 6, 11, 30, 35}) {
            due.is("column of " + c, x.over(c, 1), c % 6);
            due.is("whether row of " + c + " isn't 0", x.over(c, 2), c < 6 ? 0 : 1);
        }
    }

    private static void beside() {
        due.by("BESIDE: a column or a row (not both) further or back by one");
        for (int a = 0; a < 36; a++) {
            RugIsJurisdiction x = new RugIsJurisdiction();
            Due.row(x, 0, 2, a, 0);
            for (int b = -7; b < 43; b++) {
                x.cell(0, 1, b);
                int apart = Math.abs(a % 6 - Math.floorMod(b, 6)) + Math.abs(a / 6 - Math.floorDiv(b, 6));
                boolean beside = b >= 0 && b < 36 && apart == 1;
                due.is("a walk from " + a + " to " + b, x.walk(0, 0), beside ? -1 : -2);
            }
        }
    }

    private static boolean isWithin(int c, int[] edges) {
        boolean column = edges[0] <= c % 6 && c % 6 <= edges[1];
        boolean row = edges[2] <= c / 6 && c / 6 <= edges[3];
        return column && row;
    }

    /** Of all places where a rug can lie: first, last column, first, last row. */
    private static int[][] allPlaces() {
        int[][] all = new int[441][];
        int n = 0;
        for (int left = 0; left < 6; left++) {
            for (int right = left; right < 6; right++) {
                for (int top = 0; top < 6; top++) {
                    for (int bottom = top; bottom < 6; bottom++) {
                        all[n++] = new int[] {left, right, top, bottom};
                    }
                }
            }
        }
        return all;
    }

    private static int corners(int[] edges) {
        return 100 * (edges[0] + 6 * edges[2]) + edges[1] + 6 * edges[3];
    }

    private static void whereOneLies() {
        for (int[] edges : allPlaces()) {
            int corners = corners(edges);
            RugIsJurisdiction x = new RugIsJurisdiction();
            due.by("LIES on all CELLS whose COLUMN and ROW are between theirs, these, too");
            due.is("spread(0, " + corners + ")", x.spread(0, corners), 0);
            int many = 0;
            for (int c = 0; c < 36; c++) {
                boolean lies = isWithin(c, edges);
                many += lies ? 1 : 0;
                due.is("rugs on " + c + " by " + corners, x.over(c, 3), lies ? 1 : 0);
            }
            due.by("SIZE: how many these are");
            due.is("size by " + corners, x.told(0, 4), many);
            x.force(Due.text(x, "fines size ; admits 1 ; sleeps 0 ;"));
            due.is("size in a text by " + corners, x.asks(0, 0, 0), many);
        }
    }

    private static void fringe() {
        due.by("FRINGE: those of its first, last COLUMN, of its first, last ROW");
        for (int[] edges : allPlaces()) {
            RugIsJurisdiction x = new RugIsJurisdiction();
            x.spread(11, corners(edges));
            for (int c = 0; c < 36; c++) {
                boolean within = edges[0] < c % 6 && c % 6 < edges[1] && edges[2] < c / 6 && c / 6 < edges[3];
                int want = within ? 1 : isWithin(c, edges) ? 3 : 0;
                due.is("fined on " + c + " by " + corners(edges), x.over(c, 1), want);
            }
        }
    }

    private static void guestsAsOneComes() {
        due.by("GUESTS (0 .. 99; 0 as one comes)");
        RugIsJurisdiction x = new RugIsJurisdiction();
        x.image();
        for (int r = 0; r < 6; r++) {
            x.spread(10 * r + 9, 35);
            due.is("told(" + r + ", 1)", x.told(r, 1), 0);
            x.put(r, 1, 99);
        }
        x.back();
        for (int r = 0; r < 6; r++) {
            x.spread(10 * r + 9, 35);
            due.is("told(" + r + ", 1) anew", x.told(r, 1), 0);
        }
    }

    /** One rug on 0 .. 14, cell 7 alone within its fringe, awake. */
    private static RugIsJurisdiction one(int kind, int more, int guests) {
        RugIsJurisdiction x = new RugIsJurisdiction();
        x.spread(10 * kind + more, 14);
        x.put(0, 1, guests);
        x.strikes(kind == LEAGUE ? 14 : 12);
        return x;
    }

    private static void fines(int kind, int more, int guests, int within, int fringe) {
        RugIsJurisdiction x = one(kind, more, guests);
        String what = "kind " + kind + ", more " + more + ", guests " + guests + ", on ";
        for (int c : new int[] {0, 1, 2, 6, 8, 12, 13, 14}) {
            due.is(what + c, x.over(c, 1), fringe);
        }
        due.is(what + 7, x.over(7, 1), within);
        due.is(what + "where it does not lie", x.over(3, 1), 0);
    }

    private static void rugFines() {
        due.by("0 RUG: FINED that; THE LAW: fines 1 + guests, 0 .. 99, else the bound");
        for (int kind : new int[] {RUG, NURSE}) {
            fines(kind, 0, 0, 1, 1);
            fines(kind, 9, 0, 1, 1);
            fines(kind, 9, 97, 98, 98);
            fines(kind, 9, 98, 99, 99);
            fines(kind, 9, 99, 99, 99);
        }
    }

    private static void tartanFines() {
        due.by("1 TARTAN: FINED twice MORE more on its FRINGE");
        fines(TARTAN, 0, 0, 1, 1);
        fines(TARTAN, 1, 0, 1, 3);
        fines(TARTAN, 9, 0, 1, 19);
        fines(TARTAN, 9, 99, 99, 117);
    }

    private static void slaverFines() {
        due.by("3 SLAVER: FINED twice as much as by a TARTAN");
        fines(SLAVER, 0, 0, 2, 2);
        fines(SLAVER, 1, 0, 2, 6);
        fines(SLAVER, 9, 0, 2, 38);
        fines(SLAVER, 9, 99, 198, 234);
    }

    private static void leagueFines() {
        due.by("4 LEAGUE: FINED 0 on its FRINGE, else half (cut) as much as by a RUG");
        fines(LEAGUE, 9, 0, 0, 0);
        fines(LEAGUE, 9, 1, 1, 0);
        fines(LEAGUE, 9, 2, 1, 0);
        fines(LEAGUE, 9, 3, 2, 0);
        fines(LEAGUE, 0, 98, 49, 0);
        fines(LEAGUE, 0, 99, 49, 0);
    }

    private static void antsFine() {
        due.by("5 ANTS: FINED MORE");
        for (int more = 0; more < 10; more++) {
            fines(ANTS, more, 0, more, more);
            fines(ANTS, more, 99, more, more);
        }
    }

    private static void finesAreBoundedAheadOfTheKind() {
        due.by("fines are bounded ahead of what a KIND makes of them");
        int[][] told = {{-1000, 0}, {-2, 0}, {-1, 0}, {0, 0}, {1, 1}, {98, 98}, {99, 99}, {100, 99}, {101, 99}, {9999, 99}};
        for (int[] t : told) {
            RugIsJurisdiction x = Due.under("fines " + t[0] + " ; admits 1 ; sleeps hour < 14 ;");
            x.strikes(14);
            x.spread(19, 14);
            due.is("a tartan within, of " + t[0], x.over(7, 1), t[1]);
            due.is("a tartan's fringe, of " + t[0], x.over(0, 1), t[1] + 18);
            x.spread(39, 14);
            due.is("a slaver within, of " + t[0], x.over(7, 1), 2 * t[1]);
            due.is("a slaver's fringe, of " + t[0], x.over(0, 1), 2 * (t[1] + 18));
            x.spread(49, 14);
            due.is("a league within, of " + t[0], x.over(7, 1), t[1] / 2);
            due.is("a league's fringe, of " + t[0], x.over(0, 1), 0);
        }
    }

    private static void admits(int kind, int more, int guests, int want) {
        RugIsJurisdiction x = one(kind, more, guests);
        due.is("kind " + kind + ", more " + more + ", guests " + guests + " admits", x.over(7, 2), want);
        x.force(Due.text(x, "fines 1 ; admits 0 ; sleeps hour < 6 ;"));
        int never = kind == SLAVER ? 1 : 0;
        due.is("kind " + kind + ", more " + more + ", guests " + guests + " admits by a text that never does",
            x.over(7, 2), never);
        x.force(Due.text(x, "fines 1 ; admits -1 ; sleeps hour < 6 ;"));
        boolean asNurse = kind != NURSE && kind != LEAGUE || guests < more;
        due.is("kind " + kind + ", more " + more + ", guests " + guests + " admits by a text that always does",
            x.over(7, 2), asNurse ? 1 : 0);
    }

    private static void nurseAdmits() {
        due.by("2 NURSE: ADMITS as a RUG, and just if GUESTS are below MORE");
        for (int more = 0; more < 10; more++) {
            for (int guests = 0; guests < 12; guests++) {
                admits(NURSE, more, guests, guests < more ? 1 : 0);
            }
        }
        admits(NURSE, 9, 99, 0);
    }

    private static void leagueAdmits() {
        due.by("4 LEAGUE (a NURSE): whatever isn't told is as of the KIND above");
        for (int more : new int[] {0, 1, 9}) {
            for (int guests : new int[] {0, 1, 8, 9, 10, 99}) {
                admits(LEAGUE, more, guests, guests < more ? 1 : 0);
            }
        }
    }

    private static void slaverAdmits() {
        due.by("3 SLAVER: ADMITS always");
        for (int guests : new int[] {0, 19, 20, 99}) {
            admits(SLAVER, 0, guests, 1);
            admits(SLAVER, 9, guests, 1);
        }
    }

    private static void theOthersAdmit() {
        due.by("0 RUG: if so; THE LAW: admits guests < 20");
        for (int kind : new int[] {RUG, TARTAN, ANTS}) {
            for (int more : new int[] {0, 9}) {
                for (int guests : new int[] {0, 9, 10, 18, 19}) {
                    admits(kind, more, guests, 1);
                }
                for (int guests : new int[] {20, 21, 99}) {
                    admits(kind, more, guests, 0);
                }
            }
        }
    }

    private static void sleeps(String law, int kind, int h, boolean want) {
        RugIsJurisdiction x = Due.under("fines 1 ; admits 1 ; sleeps " + law + " ;");
        x.spread(10 * kind + 5, 0);
        x.strikes(h);
        due.is("kind " + kind + " sleeps by " + law + " at " + h, x.told(0, 6), want ? 1 : 0);
        due.is("kind " + kind + " rules by " + law + " at " + h, x.over(0, 0), want ? -1 : 0);
    }

    private static void sleepsByAlways() {
        due.by("4 LEAGUE: SLEEPS just if a NURSE doesn't. 5 ANTS: SLEEPS never. (by a text that always sleeps)");
        for (int h = 0; h < 24; h++) {
            for (int kind = 0; kind < 6; kind++) {
                sleeps("1", kind, h, kind != LEAGUE && kind != ANTS);
                sleeps("-1", kind, h, kind != LEAGUE && kind != ANTS);
            }
        }
    }

    private static void sleepsByNever() {
        due.by("2 NURSE: SLEEPS as a RUG, or if HOUR is 14 or 15. 4 LEAGUE: just if a NURSE doesn't (by one that never)");
        for (int h = 0; h < 24; h++) {
            boolean napping = h == 14 || h == 15;
            for (int kind = 0; kind < 6; kind++) {
                sleeps("0", kind, h, kind == NURSE ? napping : kind == LEAGUE && !napping);
            }
        }
    }

    private static void sleepsByTheHour() {
        due.by("THE LAW: sleeps hour < 6");
        for (int kind : new int[] {RUG, TARTAN, SLAVER}) {
            RugIsJurisdiction x = new RugIsJurisdiction();
            x.spread(10 * kind, 0);
            for (int h = 0; h < 24; h++) {
                x.strikes(h);
                due.is("kind " + kind + " sleeps at " + h, x.told(0, 6), h < 6 ? 1 : 0);
            }
        }
    }

    private static void sleepsByTheCellFromWhichItLies() {
        due.by("Of sleeps the CELL from which it LIES");
        RugIsJurisdiction x = Due.under("fines 1 ; admits 1 ; sleeps column = 2 and row = 3 ;");
        int[][] placesAndSleeps = {{2020, 1}, {2035, 1}, {1421, 0}, {20, 0}, {1920, 0}, {2121, 0}, {2626, 0}, {2032, 1}};
        x.spread(0, 0);
        for (int[] p : placesAndSleeps) {
            x.put(0, 0, p[0]);
            due.is("told(0, 6) by " + p[0], x.told(0, 6), p[1]);
            due.is("over its other corner by " + p[0], x.over(p[0] % 100, 0), p[1] == 1 ? -1 : 0);
        }
    }

    private static void theLastOneThatDoesNotSleepRules() {
        due.by("RULED by the last RUG that LIES there and doesn't SLEEP; by none, if there is none");
        for (int awake = 0; awake < 64; awake++) {
            RugIsJurisdiction x = Due.under("fines guests ; admits 1 ; sleeps guests = 0 ;");
            int last = -1;
            for (int r = 0; r < 6; r++) {
                x.spread(0, 707);
                boolean isAwake = (awake >> r & 1) == 1;
                x.put(r, 1, isAwake ? 10 + r : 0);
                last = isAwake ? r : last;
            }
            due.is("over(7, 0), awake " + awake, x.over(7, 0), last);
            due.is("over(7, 1), awake " + awake, x.over(7, 1), last < 0 ? 0 : 10 + last);
            due.is("over(7, 3), awake " + awake, x.over(7, 3), 6);
            for (int r = 0; r < 6; r++) {
                due.is("rules(" + r + "), awake " + awake, x.rules(r), r == last ? 1L << 7 : 0);
            }
        }
    }

    private static void ruledByNone() {
        due.by("by none, if there is none: then a step is FINED 0, and all are let on");
        RugIsJurisdiction x = Due.under("fines 50 ; admits 0 ; sleeps 1 ;");
        x.spread(0, 35);
        x.spread(20, 35);
        for (int c : new int[] {0, 5, 14, 30, 35}) {
            due.is("over(" + c + ", 0)", x.over(c, 0), -1);
            due.is("over(" + c + ", 1)", x.over(c, 1), 0);
            due.is("over(" + c + ", 2)", x.over(c, 2), 1);
            due.is("over(" + c + ", 3)", x.over(c, 3), 2);
        }
    }

    private static void walkIs(RugIsJurisdiction x, int denied, int fined, int borders, int rugs, int... cells) {
        Due.row(x, 3, 0, cells);
        due.is("walk(3, 0)", x.walk(3, 0), denied);
        due.is("walk(3, 1)", x.walk(3, 1), fined);
        due.is("walk(3, 2)", x.walk(3, 2), borders);
        due.is("walk(3, 3)", x.walk(3, 3), rugs);
    }

    private static void letOnAtTheFirstCellAndOverBorders() {
        due.by("in a WALK this is asked at its first CELL, and wherever it goes over a BORDER");
        // One rug on rows 0 and 1; it admits on column 0 alone. Another one on row 2, which admits on column 5 alone.
        RugIsJurisdiction x = Due.under("fines 1 ; admits column = 5 * (more = 1) ; sleeps 0 ;");
        x.spread(0, 11);
        x.spread(1, 1217);
        walkIs(x, -1, 6, 0, 1, 0, 1, 2, 3, 4, 5);
        walkIs(x, 0, 0, 0, 0, 1, 0);
        walkIs(x, -1, 8, 1, 3, 0, 1, 2, 3, 4, 5, 11, 17);
        walkIs(x, 6, 6, 0, 1, 0, 1, 2, 3, 4, 10, 16);
        walkIs(x, -1, 1, 1, 2, 23, 17);
        walkIs(x, 1, 0, 0, 0, 22, 16);
        walkIs(x, -1, 2, 2, 2, 23, 17, 16, 22);
        walkIs(x, 3, 2, 1, 2, 23, 17, 16, 10);
        walkIs(x, -1, 8, 2, 3, 23, 17, 16, 15, 14, 13, 12, 6, 0);
    }

    private static void bordersOfNone() {
        due.by("BORDER: between two CELLS BESIDE each other that aren't RULED by one and the same (or both by none)");
        RugIsJurisdiction x = new RugIsJurisdiction();
        x.spread(50, 0);
        x.spread(50, 101);
        x.spread(50, 303);
        walkIs(x, -1, 0, 4, 7, 0, 1, 2, 3, 4, 5);
        walkIs(x, -1, 0, 0, 0, 6, 7, 8, 9, 10, 11);
        walkIs(x, -1, 0, 3, 3, 6, 0, 1, 7);
        x.strikes(3);
        walkIs(x, -1, 0, 4, 7, 0, 1, 2, 3, 4, 5);
        RugIsJurisdiction y = new RugIsJurisdiction();
        y.spread(0, 0);
        y.spread(0, 101);
        walkIs(y, -1, 2, 2, 3, 0, 1, 2);
        y.strikes(3);
        walkIs(y, -1, 0, 0, 0, 0, 1, 2);
    }
}
