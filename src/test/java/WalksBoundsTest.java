/** Promises 11 .. 18, sentence by sentence: the last value that is allowed, the first that is not, each refusal. */
public final class WalksBoundsTest {
    private static final Due due = new Due("walks, bounds");
    private static final int BAD = -2, STATE = -3;
    private static final long NO = RugIsJurisdiction.NO, ALL = (1L << 36) - 1;
    private static final int LEAST = Integer.MIN_VALUE, MOST = Integer.MAX_VALUE;
    private static final String NEVER_ADMITS = "fines 1 ; admits 0 ; sleeps 0 ;";

    public static void main(String[] args) {
        promise11AtTheEnds();
        promise11Refusals();
        promise12AtTheEnds();
        promise12No();
        promise13Refusals();
        promise13NoWalk();
        promise13Lengths();
        promise13WhereOneIsNotLetOn();
        promise13OfAllAheadOfIt();
        promise14Refusals();
        promise14State();
        promise14Guests();
        promise14ToldAhead();
        promise15ToTheEdge();
        promise15WhatItGoesOver();
        promise15Refusals();
        promise16OneAndTheSame();
        promise16FarthestAndNone();
        promise16Least();
        promise16Bad();
        promise17Borders();
        promise17NoSuchRug();
        promise18Leagues();
        promise18Refusals();
        due.end();
    }

    private static void promise11AtTheEnds() {
        due.by("promise 11: which RUG RULES it (what 0; -1: none), FINED (1), LET ON (2; 1, 0), how many LIE there (3)");
        RugIsJurisdiction x = new RugIsJurisdiction();
        for (int c : new int[] {0, 35}) {
            int[] none = {-1, 0, 1, 0};
            for (int what = 0; what < 4; what++) {
                due.is("over(" + c + ", " + what + ") of none", x.over(c, what), none[what]);
            }
        }
        for (int r = 0; r < 6; r++) {
            x.spread(39, 35);
            x.put(r, 1, 99);
        }
        for (int c : new int[] {0, 35}) {
            int[] six = {5, 234, 1, 6};
            for (int what = 0; what < 4; what++) {
                due.is("over(" + c + ", " + what + ") of six", x.over(c, what), six[what]);
            }
        }
        due.by("promise 11: how many RUGS LIE there, asleep or not (3)");
        x.strikes(0);
        int[] asleep = {-1, 0, 1, 6};
        for (int what = 0; what < 4; what++) {
            due.is("over(0, " + what + ") of six asleep", x.over(0, what), asleep[what]);
        }
    }

    private static void promise11Refusals() {
        due.by("promise 11: -5: no such CELL");
        for (int c : new int[] {LEAST, -6, -1, 36, 41, MOST}) {
            due.changesNothing("over(" + c + ", 0)", Due::rich, x -> x.over(c, 0), -5);
            due.changesNothing("over(" + c + ", 3)", Due::rich, x -> x.over(c, 3), -5);
            due.changesNothing("over(" + c + ", 4), ahead of what", Due::rich, x -> x.over(c, 4), -5);
        }
        due.by("promise 11: -7: what");
        for (int what : new int[] {LEAST, -1, 4, 5, MOST}) {
            due.changesNothing("over(0, " + what + ")", Due::rich, x -> x.over(0, what), -7);
            due.changesNothing("over(35, " + what + ")", Due::rich, x -> x.over(35, what), -7);
        }
        due.by("What is asked changes nothing");
        int[] want = {0, 6, 1, 1};
        for (int what = 0; what < 4; what++) {
            int asked = what;
            due.changesNothing("over(0, " + what + ")", Due::rich, x -> x.over(0, asked), want[what]);
        }
    }

    private static void promise12AtTheEnds() {
        due.by("promise 12: CELLS (bit c for CELL c) that a RUG (-1: none) RULES");
        for (int c = 0; c < 36; c++) {
            RugIsJurisdiction x = new RugIsJurisdiction();
            due.is("rules(-1) of none", x.rules(-1), ALL);
            x.spread(0, 101 * c);
            due.is("rules(0) on " + c, x.rules(0), 1L << c);
            due.is("rules(-1) but for " + c, x.rules(-1), ALL - (1L << c));
            x.spread(0, 35);
            due.is("rules(0) under another one", x.rules(0), 0);
            due.is("rules(1)", x.rules(1), ALL);
            due.is("rules(-1)", x.rules(-1), 0);
            x.strikes(5);
            due.is("rules(1) asleep", x.rules(1), 0);
            due.is("rules(-1) of two asleep", x.rules(-1), ALL);
        }
    }

    private static void promise12No() {
        due.by("promise 12: NO: no such RUG");
        for (int r : new int[] {LEAST, -2, 4, 5, 6, MOST}) {
            due.changesNothing("rules(" + r + ")", Due::rich, x -> x.rules(r), NO);
        }
        due.changesNothing("rules(3)", Due::rich, x -> x.rules(3), Due.bits(14, 15, 20, 21));
        RugIsJurisdiction six = new RugIsJurisdiction();
        due.is("rules(0) of none", six.rules(0), NO);
        for (int r = 0; r < 6; r++) {
            six.spread(0, 101 * r);
            due.is("rules(" + r + ")", six.rules(r), 1L << r);
            due.is("rules(" + (r + 1) + ")", six.rules(r + 1), NO);
        }
    }

    private static void promise13Refusals() {
        due.by("promise 13: BAD: SHEET");
        for (int s : new int[] {LEAST, -1, 4, 5, MOST}) {
            due.changesNothing("walk(" + s + ", 0)", Due::rich, x -> x.walk(s, 0), BAD);
            due.changesNothing("walk(" + s + ", 4), ahead of what", Due::rich, x -> x.walk(s, 4), BAD);
        }
        due.by("promise 13: -11");
        for (int what : new int[] {-1, 0, 3, 4}) {
            due.changesNothing("walk(3, " + what + ")", Due::rich, x -> x.walk(3, what), -11);
        }
        due.by("promise 13: BAD: it tells no WALK");
        for (int what : new int[] {-1, 0, 3, 4}) {
            due.changesNothing("walk(2, " + what + ")", Due::rich, x -> x.walk(2, what), BAD);
        }
        due.by("promise 13: -7: what");
        for (int what : new int[] {LEAST, LEAST + 1, -1, 4, 5, MOST}) {
            due.changesNothing("walk(0, " + what + ")", Due::rich, x -> x.walk(0, what), -7);
        }
        due.by("What is asked changes nothing");
        int[] want = {-1, 6 + 7 + 7 + 7 + 24, 2, 11};
        for (int what = 0; what < 4; what++) {
            int asked = what;
            due.changesNothing("walk(0, " + what + ")", Due::rich, x -> x.walk(0, asked), want[what]);
        }
        for (int s = 0; s < 4; s++) {
            RugIsJurisdiction x = new RugIsJurisdiction();
            due.is("walk(" + s + ", 0) of none", x.walk(s, 0), -11);
            Due.row(x, s, 1, 0);
            due.is("walk(" + s + ", 0)", x.walk(s, 0), -1);
        }
    }

    private static void promise13NoWalk() {
        due.by("A WALK: CELLS, each BESIDE the one ahead");
        int[][] walks = {{0}, {35}, {0, 1}, {1, 0}, {0, 6}, {6, 0}, {35, 34}, {29, 35}, {0, 1, 0, 1}, {14, 15, 21, 20, 14}};
        int[][] none = {
            {-1}, {36}, {0, -1}, {35, 36}, {30, 36}, {5, -1}, {0, 0}, {5, 6}, {6, 5}, {29, 30}, {0, 7}, {7, 0}, {1, 6},
            {0, 2}, {0, 12}, {35, 0}, {0, 35}, {0, 30}, {0, 5}, {0, 1, 2, 3, 4, 5, 6}, {0, 1, 1}, {99, 0}, {0, 1, 36}
        };
        for (int sort = 0; sort < 3; sort++) {
            RugIsJurisdiction x = new RugIsJurisdiction();
            for (int[] cells : walks) {
                Due.row(x, 0, sort, cells);
                due.is("a walk of " + cells.length + " from " + cells[0], x.walk(0, 0), -1);
            }
            for (int[] cells : none) {
                Due.row(x, 0, sort, cells);
                due.is("no walk of " + cells.length + " from " + cells[0], x.walk(0, 0), BAD);
                due.is("no visit of " + cells.length + " from " + cells[0], x.visit(0), BAD);
            }
        }
        RugIsJurisdiction x = new RugIsJurisdiction();
        Due.row(x, 0, 2, 0, 65537);
        due.is("an int is no cell by its lowest 16 bits", x.walk(0, 0), BAD);
        Due.row(x, 0, 1, 0, 65537);
        due.is("a short is", x.walk(0, 0), -1);
        Due.row(x, 0, 1, 0, 257);
        due.is("a short is no cell by its lowest 8 bits", x.walk(0, 0), BAD);
        Due.row(x, 0, 0, 0, 257);
        due.is("a byte is", x.walk(0, 0), -1);
    }

    /** To and fro between two cells. */
    private static int[] toAndFro(int one, int other, int many) {
        int[] cells = new int[many];
        for (int i = 0; i < many; i++) {
            cells[i] = i % 2 == 0 ? one : other;
        }
        return cells;
    }

    private static void promise13Lengths() {
        due.by("A WALK: (none, too); SHEETS 40 at most");
        for (int many : new int[] {0, 1, 2, 39, 40}) {
            RugIsJurisdiction x = new RugIsJurisdiction();
            x.spread(59, 0);
            Due.row(x, 0, 0, toAndFro(0, 1, many));
            due.is("walk(0, 0) of " + many, x.walk(0, 0), -1);
            due.is("walk(0, 1) of " + many, x.walk(0, 1), 9 * ((many + 1) / 2));
            due.is("walk(0, 2) of " + many, x.walk(0, 2), Math.max(0, many - 1));
            due.is("walk(0, 3) of " + many, x.walk(0, 3), many == 0 ? 0 : 1);
            due.is("visit(0) of " + many, x.visit(0), 9 * ((many + 1) / 2));
            due.is("told(0, 1)", x.told(0, 1), many == 0 ? 0 : 1);
        }
    }

    /** To and fro between 0 and 6, but for one step that is on 1. */
    private static int[] onOneAt(int step) {
        int[] cells = new int[40];
        for (int i = 0; i < 40; i++) {
            cells[i] = i == step ? 1 : (i - step) % 2 == 0 ? 6 : 0;
        }
        return cells;
    }

    private static void promise13WhereOneIsNotLetOn() {
        due.by("promise 13: the first step (from 0) at which one is not LET ON (what 0; -1: none)");
        for (int step = 0; step < 40; step++) {
            RugIsJurisdiction x = Due.under(NEVER_ADMITS);
            x.spread(0, 101);
            Due.row(x, 0, 2, onOneAt(step));
            due.is("walk(0, 0), not let on at " + step, x.walk(0, 0), step);
            for (int what = 1; what < 4; what++) {
                due.is("walk(0, " + what + "), not let on at " + step, x.walk(0, what), 0);
            }
            due.is("visit(0), not let on at " + step, x.visit(0), STATE);
            x.put(0, 0, 202);
            due.is("walk(0, 0), let on at all", x.walk(0, 0), -1);
        }
    }

    private static void promise13OfAllAheadOfIt() {
        due.by("walk(): what 1, 2, 3 of the CELLS ahead of the one at which one is not LET ON, BORDERS between these alone");
        // Ants of 9 on cell 0, of 5 on cell 1, a nurse that admits none on cell 2, ants of 3 on cell 3.
        RugIsJurisdiction x = new RugIsJurisdiction();
        x.spread(59, 0);
        x.spread(55, 101);
        x.spread(20, 202);
        x.spread(53, 303);
        int[] cells = {12, 6, 0, 1, 2, 3, 4};
        int[][] want = {
            {-1, 0, 0, 0}, {-1, 0, 0, 0}, {-1, 0, 0, 0}, {-1, 9, 1, 1}, {-1, 14, 2, 3}, {4, 14, 2, 3}, {4, 14, 2, 3},
            {4, 14, 2, 3}
        };
        for (int many = 0; many <= 7; many++) {
            Due.row(x, 0, 1, java.util.Arrays.copyOf(cells, many));
            for (int what = 0; what < 4; what++) {
                due.is("walk(0, " + what + ") of " + many, x.walk(0, what), want[many][what]);
            }
        }
        Due.row(x, 0, 1, 2, 3);
        int[] atOnce = {0, 0, 0, 0};
        for (int what = 0; what < 4; what++) {
            due.is("walk(0, " + what + "), not let on at once", x.walk(0, what), atOnce[what]);
        }
        RugIsJurisdiction y = Due.under("fines 99 ; admits 1 ; sleeps 0 ;");
        for (int r = 0; r < 6; r++) {
            y.spread(39, 101 * r);
        }
        int[] most = toAndFro(0, 1, 40);
        Due.row(y, 0, 0, most);
        due.is("the most that is fined", y.walk(0, 1), 40 * 234);
        due.is("the most borders", y.walk(0, 2), 39);
        Due.row(y, 0, 0, 0, 1, 2, 3, 4, 5);
        due.is("all six", y.walk(0, 3), 63);
    }

    private static void promise14Refusals() {
        due.by("promise 14: BAD, -11, BAD likewise");
        for (int s : new int[] {LEAST, -1, 4, 5, MOST}) {
            due.changesNothing("visit(" + s + ")", Due::rich, x -> x.visit(s), BAD);
        }
        due.changesNothing("visit(3)", Due::rich, x -> x.visit(3), -11);
        due.changesNothing("visit(2)", Due::rich, x -> x.visit(2), BAD);
        due.by("REFUSALS, of several the first one told: promise 14 BAD ahead of STATE");
        due.changesNothing("visit of no walk that begins where one is not let on", () -> {
            RugIsJurisdiction x = Due.rich();
            Due.row(x, 0, 0, 24, 26);
            return x;
        }, x -> x.visit(0), BAD);
    }

    private static RugIsJurisdiction notLetOnAt(int step) {
        RugIsJurisdiction x = new RugIsJurisdiction();
        x.spread(20, 101);
        x.spread(50, 0);
        x.spread(0, 606);
        Due.row(x, 0, 2, onOneAt(step));
        return x;
    }

    private static void promise14State() {
        due.by("promise 14: STATE: there is a step at which one is not LET ON (it changes nothing)");
        for (int step : new int[] {0, 1, 2, 38, 39}) {
            due.changesNothing("visit(0), not let on at " + step, () -> notLetOnAt(step), x -> x.visit(0), STATE);
        }
        RugIsJurisdiction x = notLetOnAt(0);
        x.put(0, 0, 202);
        due.is("visit(0), let on at all", x.visit(0), 19);
    }

    private static void promise14Guests() {
        due.by("promise 14: GUESTS of all RUGS that RULE any of its CELLS are 1 more (99 at most)");
        for (int guests : new int[] {0, 1, 97, 98, 99}) {
            RugIsJurisdiction x = Due.under("fines 1 ; admits 1 ; sleeps 0 ;");
            x.spread(0, 7);
            x.spread(30, 202);
            x.spread(50, 303);
            x.spread(10, 404);
            for (int r = 0; r < 4; r++) {
                x.put(r, 1, guests);
            }
            // Over rug 0 twice, over 1 once, to the border of 2 alone; rug 3 is not gone over.
            Due.row(x, 0, 0, 0, 1, 2, 8, 7, 6, 12);
            due.is("visit(0)", x.visit(0), 1 + 1 + 2 + 0 + 1 + 1 + 0);
            due.is("guests of 0, from " + guests, x.told(0, 1), Math.min(99, guests + 1));
            due.is("guests of 1, from " + guests, x.told(1, 1), Math.min(99, guests + 1));
            due.is("guests of 2, not gone over", x.told(2, 1), guests);
            due.is("guests of 3, not gone over", x.told(3, 1), guests);
        }
        RugIsJurisdiction y = new RugIsJurisdiction();
        y.spread(0, 0);
        y.spread(50, 0);
        y.spread(40, 0);
        Due.row(y, 0, 0, 0, 1);
        due.is("visit(0)", y.visit(0), 0);
        due.is("guests of one that lies under the ruler", y.told(0, 1), 0);
        due.is("guests of the ruler", y.told(1, 1), 1);
        due.is("guests of one asleep", y.told(2, 1), 0);
        due.by("A WALK: (none, too)");
        due.changesNothing("visit(3) of none", () -> {
            RugIsJurisdiction x = Due.rich();
            x.sheet(3, 0, 0);
            return x;
        }, x -> x.visit(3), 0);
        due.changesNothing("visit(3) where none rules", () -> {
            RugIsJurisdiction x = Due.rich();
            Due.row(x, 3, 0, 18, 19);
            return x;
        }, x -> x.visit(3), 0);
    }

    private static void promise14ToldAhead() {
        due.by("promise 14: what it is FINED (told ahead)");
        RugIsJurisdiction x = new RugIsJurisdiction();
        x.spread(0, 0);
        Due.row(x, 0, 0, 0, 1, 0);
        for (int guests = 0; guests < 20; guests++) {
            due.is("walk(0, 1) of " + guests, x.walk(0, 1), 2 * (1 + guests));
            due.is("visit(0) of " + guests, x.visit(0), 2 * (1 + guests));
        }
        due.is("visit(0) of 20", x.visit(0), STATE);
        due.is("told(0, 1)", x.told(0, 1), 20);
        RugIsJurisdiction y = new RugIsJurisdiction();
        y.spread(22, 0);
        Due.row(y, 0, 0, 0);
        due.is("a nurse of more 2, 0 guests", y.visit(0), 1);
        due.is("a nurse of more 2, 1 guest", y.visit(0), 2);
        due.is("a nurse of more 2, 2 guests", y.visit(0), STATE);
        due.is("told(0, 1)", y.told(0, 1), 2);
    }

    private static void promise15ToTheEdge() {
        due.by("promise 15: A ball from a CELL, it, too, CELL by CELL to the edge");
        // Ants of 1 on all cells tell how many it goes over; single ones tell where.
        RugIsJurisdiction all = new RugIsJurisdiction();
        all.spread(51, 35);
        for (int c = 0; c < 36; c++) {
            int[] many = {6 - c % 6, 1 + c % 6, 6 - c / 6, 1 + c / 6};
            for (int way = 0; way < 4; way++) {
                due.is("ball(" + c + ", " + way + ", 0)", all.ball(c, way, 0), many[way]);
                due.is("ball(" + c + ", " + way + ", 1)", all.ball(c, way, 1), 1);
                due.is("ball(" + c + ", " + way + ", 2)", all.ball(c, way, 2), 0);
            }
        }
        for (int at = 0; at < 36; at++) {
            RugIsJurisdiction x = new RugIsJurisdiction();
            x.spread(51, 101 * at);
            for (int c = 0; c < 36; c++) {
                boolean sameRow = c / 6 == at / 6;
                boolean sameColumn = c % 6 == at % 6;
                boolean[] over = {sameRow && at >= c, sameRow && at <= c, sameColumn && at >= c, sameColumn && at <= c};
                for (int way = 0; way < 4; way++) {
                    due.is("ball(" + c + ", " + way + ", 0) over " + at, x.ball(c, way, 0), over[way] ? 1 : 0);
                }
            }
        }
    }

    private static void promise15WhatItGoesOver() {
        due.by("promise 15: FINED, together (what 0), RUGS that RULE any (1; bits), how many BORDERS it goes over (2)");
        RugIsJurisdiction x = Due.under(NEVER_ADMITS);
        for (int r = 0; r < 6; r++) {
            x.spread(30 + r, 101 * r);
        }
        int[] fines = {2, 6, 10, 14, 18, 22};
        int together = 0;
        for (int r = 5; r >= 0; r--) {
            together += fines[r];
            due.is("ball(" + r + ", 0, 0)", x.ball(r, 0, 0), together);
            due.is("ball(" + r + ", 0, 1)", x.ball(r, 0, 1), 63 & -(1 << r));
            due.is("ball(" + r + ", 0, 2)", x.ball(r, 0, 2), 5 - r);
        }
        due.is("ball(0, 1, 2), at the edge", x.ball(0, 1, 2), 0);
        due.is("ball(30, 3, 1)", x.ball(30, 3, 1), 1);
        due.is("ball(30, 3, 2), none and a rug", x.ball(30, 3, 2), 1);
        due.is("ball(6, 0, 1), none", x.ball(6, 0, 1), 0);
        due.is("ball(6, 0, 2), none", x.ball(6, 0, 2), 0);
        RugIsJurisdiction y = Due.under(NEVER_ADMITS);
        y.spread(0, 5);
        y.spread(20, 202);
        due.is("one is not asked, so none stops it", y.ball(0, 0, 0), 6);
        due.is("ball(0, 0, 1)", y.ball(0, 0, 1), 3);
        due.is("ball(0, 0, 2), into it and out again", y.ball(0, 0, 2), 2);
    }

    private static void promise15Refusals() {
        due.by("promise 15: -5: no such CELL");
        for (int c : new int[] {LEAST, -6, -1, 36, 41, MOST}) {
            due.changesNothing("ball(" + c + ", 0, 0)", Due::rich, x -> x.ball(c, 0, 0), -5);
            due.changesNothing("ball(" + c + ", 4, 0), ahead of way", Due::rich, x -> x.ball(c, 4, 0), -5);
            due.changesNothing("ball(" + c + ", 0, 3), ahead of what", Due::rich, x -> x.ball(c, 0, 3), -5);
        }
        due.by("promise 15: -7: way, what");
        for (int wrong : new int[] {LEAST, -1, 4, 5, MOST}) {
            due.changesNothing("ball(35, " + wrong + ", 0)", Due::rich, x -> x.ball(35, wrong, 0), -7);
            due.changesNothing("ball(0, 1, " + wrong + ")", Due::rich, x -> x.ball(0, 1, wrong), -7);
        }
        due.changesNothing("ball(0, 1, 3)", Due::rich, x -> x.ball(0, 1, 3), -7);
        due.by("What is asked changes nothing");
        due.changesNothing("ball(2, 1, 0)", Due::rich, x -> x.ball(2, 1, 0), 7 + 7 + 6);
        due.changesNothing("ball(2, 1, 1)", Due::rich, x -> x.ball(2, 1, 1), 3);
        due.changesNothing("ball(2, 1, 2)", Due::rich, x -> x.ball(2, 1, 2), 1);
    }

    private static void way(RugIsJurisdiction x, int one, int other, int fined, int borders, int cells) {
        int[] want = {fined, borders, cells};
        for (int what = 0; what < 3; what++) {
            due.is("way(" + (100 * one + other) + ", " + what + ")", x.way(100 * one + other, what), want[what]);
            due.is("way(" + (100 * other + one) + ", " + what + ")", x.way(100 * other + one, what), want[what]);
        }
    }

    private static void promise16OneAndTheSame() {
        due.by("way() of one and the same CELL: by that CELL alone; -1, if its RULES don't ADMIT");
        RugIsJurisdiction x = new RugIsJurisdiction();
        x.spread(39, 0);
        x.spread(20, 3535);
        for (int c : new int[] {1, 5, 14, 30, 34}) {
            way(x, c, c, 0, 0, 1);
        }
        way(x, 0, 0, 38, 0, 1);
        way(x, 35, 35, -1, -1, -1);
        x.strikes(14);
        way(x, 35, 35, 0, 0, 1);
    }

    private static void promise16FarthestAndNone() {
        due.by("promise 16: -1: there is none");
        RugIsJurisdiction x = new RugIsJurisdiction();
        way(x, 0, 35, 0, 0, 11);
        way(x, 5, 30, 0, 0, 11);
        way(x, 0, 5, 0, 0, 6);
        way(x, 5, 6, 0, 0, 7);
        x.spread(20, 126);
        way(x, 0, 5, 0, 0, 16);
        way(x, 0, 1, -1, -1, -1);
        way(x, 13, 35, -1, -1, -1);
        x.put(0, 0, 131);
        way(x, 0, 5, -1, -1, -1);
        way(x, 0, 30, 0, 0, 6);
        x.put(0, 0, 35);
        way(x, 0, 35, -1, -1, -1);
        way(x, 1, 1, -1, -1, -1);
        // From corner to corner between walls: down column 0, up column 2, down column 4.
        RugIsJurisdiction y = new RugIsJurisdiction();
        y.spread(20, 125);
        y.spread(20, 933);
        y.spread(20, 529);
        way(y, 0, 35, 0, 0, 21);
        due.by("WAY: a WALK on all whose CELLS who RULES ADMITS (also within one and the same's)");
        RugIsJurisdiction z = Due.under("fines 1 ; admits column < 3 ; sleeps 0 ;");
        z.spread(0, 35);
        way(z, 0, 2, 3, 0, 3);
        way(z, 0, 3, -1, -1, -1);
        way(z, 3, 4, -1, -1, -1);
        way(z, 3, 3, -1, -1, -1);
    }

    private static void promise16Least() {
        due.by("promise 16: the least that one is FINED on all its CELLS, together (what 0), the fewest BORDERS (1), CELLS (2)");
        RugIsJurisdiction x = new RugIsJurisdiction();
        x.spread(51, 4);
        x.spread(51, 505);
        // Straight along row 0 each cell is fined 1; around by row 1 none is, but two borders are gone over.
        way(x, 0, 0, 1, 0, 1);
        way(x, 0, 1, 2, 0, 2);
        way(x, 0, 4, 2, 0, 5);
        way(x, 0, 5, 2, 1, 6);
        way(x, 0, 11, 1, 1, 7);
        RugIsJurisdiction y = new RugIsJurisdiction();
        y.spread(59, 101);
        y.spread(52, 611);
        y.spread(50, 1217);
        // Straight: 9; around by row 1: 2 + 2 + 2; by row 2, through row 1 twice: 2 + 0 + 0 + 0 + 2.
        way(y, 0, 2, 4, 2, 3);
        way(y, 0, 5, 4, 2, 6);
        y.put(0, 0, 102);
        way(y, 0, 3, 4, 2, 4);
        y.put(2, 1, 20);
        way(y, 0, 3, 8, 2, 4);
        way(y, 0, 18, -1, -1, -1);
    }

    private static void promise16Bad() {
        due.by("promise 16: BAD");
        for (int cells : new int[] {LEAST, -100, -36, -1, 36, 99, 136, 3536, 3599, 3600, 3601, 10000, MOST}) {
            for (int what = 0; what < 3; what++) {
                int asked = what;
                due.changesNothing("way(" + cells + ", " + what + ")", Due::rich, x -> x.way(cells, asked), BAD);
            }
        }
        for (int what : new int[] {LEAST, -1, 3, 4, MOST}) {
            due.changesNothing("way(0, " + what + ")", Due::rich, x -> x.way(0, what), BAD);
            due.changesNothing("way(3535, " + what + ")", Due::rich, x -> x.way(3535, what), BAD);
        }
        due.by("What is asked changes nothing");
        due.changesNothing("way(3, 0)", Due::rich, x -> x.way(3, 0), 6 + 7 + 7 + 7);
        due.changesNothing("way(3, 1)", Due::rich, x -> x.way(3, 1), 1);
        due.changesNothing("way(3, 2)", Due::rich, x -> x.way(3, 2), 4);
        due.changesNothing("way(35, 2)", Due::rich, x -> x.way(35, 2), -1);
    }

    private static void promise17Borders() {
        due.by("promise 17: RUGS (bits) that RULE a CELL BESIDE one that a RUG RULES (not itself)");
        for (int at = 0; at < 36; at++) {
            RugIsJurisdiction x = new RugIsJurisdiction();
            x.spread(0, 101 * at);
            x.spread(0, 0);
            for (int c = 0; c < 36; c++) {
                x.put(1, 0, 101 * c);
                int apart = Math.abs(at % 6 - c % 6) + Math.abs(at / 6 - c / 6);
                due.is("borders(0), on " + at + " and " + c, x.borders(0), apart == 1 ? 2 : 0);
                due.is("borders(1), on " + at + " and " + c, x.borders(1), apart == 1 ? 1 : 0);
            }
        }
        RugIsJurisdiction y = new RugIsJurisdiction();
        y.spread(0, 35);
        due.is("borders(0) of one alone", y.borders(0), 0);
        y.spread(0, 35);
        due.is("borders(0) under another one", y.borders(0), 0);
        due.is("borders(1) over another one", y.borders(1), 0);
        y.put(1, 0, 714);
        y.spread(59, 1515);
        due.is("borders(0)", y.borders(0), 6);
        due.is("borders(1)", y.borders(1), 5);
        due.is("borders(2)", y.borders(2), 3);
        y.strikes(5);
        due.is("borders(2), all others asleep", y.borders(2), 0);
        due.is("borders(0), asleep", y.borders(0), 0);
        RugIsJurisdiction six = new RugIsJurisdiction();
        six.spread(0, 35);
        for (int r = 1; r < 6; r++) {
            six.spread(0, 101 * 7 * (r - 1));
        }
        due.is("borders(0) of six", six.borders(0), 62);
        due.is("borders(5) of six", six.borders(5), 1);
    }

    private static void promise17NoSuchRug() {
        due.by("promise 17: -5: no such RUG");
        for (int r : new int[] {LEAST, -2, -1, 4, 5, 6, MOST}) {
            due.changesNothing("borders(" + r + ")", Due::rich, x -> x.borders(r), -5);
        }
        due.changesNothing("borders(3)", Due::rich, x -> x.borders(3), 6);
        due.changesNothing("borders(0)", Due::rich, x -> x.borders(0), 2);
        due.is("borders(0) of none", new RugIsJurisdiction().borders(0), -5);
    }

    private static void leagueIs(RugIsJurisdiction x, int r, int rugs, int cells) {
        due.is("league(" + r + ", 0)", x.league(r, 0), rugs);
        due.is("league(" + r + ", 1)", x.league(r, 1), cells);
    }

    private static void promise18Leagues() {
        due.by("promise 18: RUGS that hang together with a RUG by that, also by others between, itself, too");
        // In a row, from one end to the other, in each turn of their numbers.
        for (int turn = 0; turn < 6; turn++) {
            for (int pace = 1; pace <= 5; pace += 4) {
                RugIsJurisdiction x = new RugIsJurisdiction();
                for (int r = 0; r < 6; r++) {
                    x.spread(0, 101 * ((turn + pace * r) % 6));
                }
                for (int r = 0; r < 6; r++) {
                    leagueIs(x, r, 63, 6);
                }
                x.put(2, 0, 3535);
                leagueIs(x, 2, 4, 1);
            }
        }
        RugIsJurisdiction y = new RugIsJurisdiction();
        y.spread(0, 0);
        leagueIs(y, 0, 1, 1);
        y.spread(0, 202);
        leagueIs(y, 0, 1, 1);
        y.spread(0, 101);
        leagueIs(y, 0, 7, 3);
        leagueIs(y, 2, 7, 3);
        y.put(0, 0, 35);
        leagueIs(y, 1, 7, 36);
        due.by("promise 18: (what 0; none, if it RULES no CELL)");
        y.put(2, 0, 35);
        leagueIs(y, 0, 0, 0);
        leagueIs(y, 1, 0, 0);
        leagueIs(y, 2, 4, 36);
        y.strikes(0);
        leagueIs(y, 2, 0, 0);
    }

    private static void promise18Refusals() {
        due.by("promise 18: -5: no such RUG");
        for (int r : new int[] {LEAST, -1, 4, 6, MOST}) {
            due.changesNothing("league(" + r + ", 0)", Due::rich, x -> x.league(r, 0), -5);
            due.changesNothing("league(" + r + ", 1)", Due::rich, x -> x.league(r, 1), -5);
            due.changesNothing("league(" + r + ", 2), ahead of what", Due::rich, x -> x.league(r, 2), -5);
        }
        due.by("promise 18: -7: what");
        for (int what : new int[] {LEAST, -1, 2, 3, MOST}) {
            due.changesNothing("league(3, " + what + ")", Due::rich, x -> x.league(3, what), -7);
        }
        due.by("What is asked changes nothing");
        due.changesNothing("league(3, 0)", Due::rich, x -> x.league(3, 0), 15);
        due.changesNothing("league(3, 1)", Due::rich, x -> x.league(3, 1), 24);
    }
}
