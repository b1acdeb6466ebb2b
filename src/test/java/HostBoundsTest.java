/** Promises 34 .. 38, sentence by sentence: the last value that is allowed, the first that is not, each refusal. */
public final class HostBoundsTest {
    private static final Due due = new Due("host, bounds");
    private static final int BAD = -2, FULL = -4;
    private static final int LEAST = Integer.MIN_VALUE, MOST = Integer.MAX_VALUE;
    private static final int[] NO_SHEETS = {LEAST, -1, 4, 5, MOST};

    public static void main(String[] args) {
        promise34Sorts();
        promise34Lengths();
        promise34Missing();
        promise34All0();
        promise34Bad();
        promise34BelowZero();
        promise35Places();
        promise35LowestBits();
        promise35Refusals();
        promise36AsTheyWere();
        promise36Edges();
        promise36Bad();
        promise36Missing();
        promise36Unlike();
        promise36Outside();
        promise37TwoByTwo();
        promise37LeftOut();
        promise37Full();
        promise37Outside();
        promise37Refusals();
        promise37OfEachSort();
        promise38Rugs();
        promise38Guests();
        promise38Refusals();
        due.end();
    }

    /** Under this law, with a rug on all cells, each cell is fined its number: so where() tells a number 0 .. 35. */
    private static RugIsJurisdiction reading() {
        RugIsJurisdiction x = Due.under("fines column + 6 * row ; admits 1 ; sleeps 0 ;");
        x.spread(0, 35);
        return x;
    }

    /** A sheet's numbers, each 0 .. 35, read by a scratch one. */
    private static void are(RugIsJurisdiction x, int s, int scratch, int... numbers) {
        int size = Seen.size(x, s);
        int sort = Seen.sort(x, s);
        due.is("size of " + s, size, numbers.length);
        x.sheet(scratch, sort, 1);
        for (int i = 0; i < numbers.length; i++) {
            x.copy(s, i, scratch, 0, 1);
            due.is("number " + i + " of " + s, x.where(scratch), 1L << numbers[i]);
        }
    }

    private static void promise34Sorts() {
        due.by("promise 34: A SHEET becomes a row of n of a sort: 1");
        for (int s = 0; s < 4; s++) {
            for (int sort = 0; sort < 3; sort++) {
                RugIsJurisdiction x = new RugIsJurisdiction();
                due.is("sheet(" + s + ", " + sort + ", 2)", x.sheet(s, sort, 2), 1);
                for (int other = 0; other < 4; other++) {
                    due.is("sort of " + other, Seen.sort(x, other), other == s ? sort : -1);
                    due.is("size of " + other, Seen.size(x, other), other == s ? 2 : -11);
                }
                for (int then = 0; then < 3; then++) {
                    due.is("sheet(" + s + ", " + then + ", 3)", x.sheet(s, then, 3), 1);
                    due.is("its sort", Seen.sort(x, s), then);
                    due.is("its size", Seen.size(x, s), 3);
                }
            }
        }
    }

    private static void promise34Lengths() {
        due.by("promise 34: a row of n (40 at most)");
        for (int sort = 0; sort < 3; sort++) {
            for (int n : new int[] {0, 1, 2, 39, 40}) {
                RugIsJurisdiction x = new RugIsJurisdiction();
                due.is("sheet(0, " + sort + ", " + n + ")", x.sheet(0, sort, n), 1);
                due.is("size", Seen.size(x, 0), n);
                due.is("the last place", x.cell(0, n - 1, 0), n == 0 ? -12 : 1);
                due.is("the place behind", x.cell(0, n, 0), -12);
                due.is("a smaller one", x.sheet(0, sort, n / 2), 1);
                due.is("size", Seen.size(x, 0), n / 2);
                due.is("the place behind", x.cell(0, n / 2, 0), -12);
            }
        }
    }

    private static void promise34Missing() {
        due.by("promise 34: or missing (sort -1: n does not matter): 1");
        for (int n : new int[] {LEAST, -1, 0, 1, 40, 41, MOST}) {
            for (int s = 0; s < 4; s++) {
                RugIsJurisdiction x = new RugIsJurisdiction();
                x.sheet(s, 2, 5);
                due.is("sheet(" + s + ", -1, " + n + ")", x.sheet(s, -1, n), 1);
                due.is("size", Seen.size(x, s), -11);
                due.is("cell", x.cell(s, 0, 0), -11);
                due.is("missing already", x.sheet(s, -1, n), 1);
                due.is("size", Seen.size(x, s), -11);
            }
        }
    }

    private static void promise34All0() {
        due.by("promise 34: all 0");
        for (int sort = 0; sort < 3; sort++) {
            for (int then = 0; then < 3; then++) {
                RugIsJurisdiction x = reading();
                Due.row(x, 0, sort, 7, 35, 1, 9, 2);
                x.sheet(0, then, 5);
                are(x, 0, 3, 0, 0, 0, 0, 0);
                Due.row(x, 1, sort, 7, 35, 1, 9, 2);
                x.sheet(1, -1, 0);
                x.sheet(1, then, 6);
                are(x, 1, 3, 0, 0, 0, 0, 0, 0);
                Due.row(x, 2, sort, 7, 35, 1, 9, 2);
                x.sheet(2, then, 2);
                x.sheet(2, then, 5);
                are(x, 2, 3, 0, 0, 0, 0, 0);
            }
        }
        RugIsJurisdiction x = reading();
        int[] forty = new int[40];
        java.util.Arrays.fill(forty, 35);
        Due.row(x, 0, 1, forty);
        x.sheet(0, 1, 40);
        are(x, 0, 3, new int[40]);
    }

    private static void promise34Bad() {
        for (int s : NO_SHEETS) {
            due.by("promise 34: BAD: SHEET");
            due.changesNothing("sheet(" + s + ", 0, 1)", Due::rich, x -> x.sheet(s, 0, 1), BAD);
            due.changesNothing("sheet(" + s + ", -1, 1)", Due::rich, x -> x.sheet(s, -1, 1), BAD);
            due.by("REFUSALS, of several the first one told: promise 34 BAD ahead of -14");
            due.changesNothing("sheet(" + s + ", 0, -1)", Due::rich, x -> x.sheet(s, 0, -1), BAD);
        }
        for (int sort : new int[] {LEAST, -2, 3, 4, MOST}) {
            due.by("promise 34: BAD: sort");
            due.changesNothing("sheet(0, " + sort + ", 1)", Due::rich, x -> x.sheet(0, sort, 1), BAD);
            due.changesNothing("sheet(3, " + sort + ", 40)", Due::rich, x -> x.sheet(3, sort, 40), BAD);
            due.by("REFUSALS, of several the first one told: promise 34 BAD ahead of -14");
            due.changesNothing("sheet(0, " + sort + ", -1)", Due::rich, x -> x.sheet(0, sort, -1), BAD);
        }
        due.by("promise 34: BAD: n above 40");
        for (int sort = 0; sort < 3; sort++) {
            int to = sort;
            for (int n : new int[] {41, 42, 100, MOST}) {
                for (int s = 0; s < 4; s++) {
                    int of = s;
                    due.changesNothing("sheet(" + s + ", " + sort + ", " + n + ")", Due::rich, x -> x.sheet(of, to, n),
                        BAD);
                }
            }
        }
    }

    private static void promise34BelowZero() {
        due.by("promise 34: -14: a size below 0");
        for (int sort = 0; sort < 3; sort++) {
            int to = sort;
            for (int n : new int[] {LEAST, -40, -1}) {
                for (int s = 0; s < 4; s++) {
                    int of = s;
                    due.changesNothing("sheet(" + s + ", " + sort + ", " + n + ")", Due::rich, x -> x.sheet(of, to, n),
                        -14);
                }
            }
        }
    }

    private static void promise35Places() {
        due.by("promise 35: Number i of a SHEET becomes v: 1");
        for (int sort = 0; sort < 3; sort++) {
            RugIsJurisdiction x = reading();
            x.sheet(0, sort, 5);
            x.sheet(1, sort, 5);
            for (int i = 4; i >= 0; i--) {
                due.is("cell(0, " + i + ", " + (35 - i) + ")", x.cell(0, i, 35 - i), 1);
            }
            are(x, 0, 3, 35, 34, 33, 32, 31);
            are(x, 1, 3, 0, 0, 0, 0, 0);
            due.is("cell(0, 2, 0)", x.cell(0, 2, 0), 1);
            are(x, 0, 3, 35, 34, 0, 32, 31);
        }
    }

    private static void promise35LowestBits() {
        due.by("promise 35: (of bytes, shorts its lowest 8, 16 bits)");
        int[] bits = {8, 16, 32};
        int[] numbers = {
            3, 256 + 3, -256 + 3, 512 + 3, 65536 + 3, -65536 + 3, 65536 + 256 + 3, LEAST + 3, 0x7fffff03, 0x7fff0003, 131
        };
        for (int sort = 0; sort < 3; sort++) {
            RugIsJurisdiction x = new RugIsJurisdiction();
            x.spread(53, 0);
            x.sheet(0, sort, 1);
            for (int v : numbers) {
                due.is("cell(0, 0, " + v + ")", x.cell(0, 0, v), 1);
                long lowest = v & (1L << bits[sort]) - 1;
                due.is("whether it is 3 then", x.judge(0, 0), lowest == 3 ? -1 : 0);
                due.is("whether it is a cell", x.walk(0, 0), lowest == 3 ? -1 : BAD);
            }
        }
        RugIsJurisdiction x = new RugIsJurisdiction();
        x.spread(39, 0);
        x.put(0, 1, 99);
        x.strikes(0);
        for (int sort = 0; sort < 3; sort++) {
            // A slaver fines 234 from 6 on, nothing ahead.
            Due.row(x, 0, sort, 0, 0, 0, 0, 0, 0, 234);
            due.is("234 of sort " + sort, x.judge(0, 0), sort == 0 ? 6 : -1);
            x.cell(0, 6, -22);
            due.is("-22 of sort " + sort, x.judge(0, 0), 6);
        }
    }

    private static void promise35Refusals() {
        due.by("promise 35: BAD: SHEET (ahead of -12)");
        for (int s : NO_SHEETS) {
            for (int i : new int[] {-1, 0, 40}) {
                due.changesNothing("cell(" + s + ", " + i + ", 1)", Due::rich, x -> x.cell(s, i, 1), BAD);
            }
        }
        due.by("promise 35: -11 (ahead of -12)");
        for (int i : new int[] {LEAST, -1, 0, 40, MOST}) {
            due.changesNothing("cell(3, " + i + ", 1)", Due::rich, x -> x.cell(3, i, 1), -11);
        }
        due.by("promise 35: -12");
        int[] sizes = {5, 24, 7};
        for (int s = 0; s < 3; s++) {
            int of = s;
            for (int i : new int[] {LEAST, -40, -1, sizes[s], sizes[s] + 1, 39, 40, 41, MOST}) {
                due.changesNothing("cell(" + s + ", " + i + ", 1)", Due::rich, x -> x.cell(of, i, 1), -12);
            }
            due.is("cell(" + s + ", 0, 1)", Due.rich().cell(s, 0, 1), 1);
            due.is("cell(" + s + ", last, 1)", Due.rich().cell(s, sizes[s] - 1, 1), 1);
        }
    }

    private static void promise36AsTheyWere() {
        due.by("promise 36: n numbers of a SHEET, from i on, come to another one's (or its own) place j (as they were): n");
        for (int sort = 0; sort < 3; sort++) {
            int[] row = {10, 11, 12, 13, 14};
            for (int i = 0; i <= 5; i++) {
                for (int j = 0; j <= 5; j++) {
                    RugIsJurisdiction x = reading();
                    int n = 5 - Math.max(i, j);
                    Due.row(x, 0, sort, row);
                    due.is("copy(0, " + i + ", 0, " + j + ", " + n + ")", x.copy(0, i, 0, j, n), n);
                    int[] want = row.clone();
                    for (int k = 0; k < n; k++) {
                        want[j + k] = row[i + k];
                    }
                    are(x, 0, 3, want);
                    Due.row(x, 0, sort, row);
                    Due.row(x, 1, sort, 20, 21, 22, 23, 24);
                    due.is("copy(0, " + i + ", 1, " + j + ", " + n + ")", x.copy(0, i, 1, j, n), n);
                    int[] other = {20, 21, 22, 23, 24};
                    for (int k = 0; k < n; k++) {
                        other[j + k] = row[i + k];
                    }
                    are(x, 1, 3, other);
                    are(x, 0, 3, row);
                }
            }
        }
    }

    private static void promise36Edges() {
        due.by("promise 36: to the last place, none, all");
        RugIsJurisdiction x = reading();
        int[] forty = new int[40];
        for (int i = 0; i < 40; i++) {
            forty[i] = i % 36;
        }
        Due.row(x, 0, 1, forty);
        x.sheet(1, 1, 40);
        due.is("copy(0, 0, 1, 0, 40)", x.copy(0, 0, 1, 0, 40), 40);
        due.is("copy(0, 40, 1, 40, 0)", x.copy(0, 40, 1, 40, 0), 0);
        due.is("copy(0, 0, 1, 40, 0)", x.copy(0, 0, 1, 40, 0), 0);
        due.is("copy(0, 39, 1, 0, 1)", x.copy(0, 39, 1, 0, 1), 1);
        forty[0] = 3;
        are(x, 1, 3, forty);
        x.sheet(2, 1, 0);
        due.is("copy(2, 0, 2, 0, 0)", x.copy(2, 0, 2, 0, 0), 0);
        due.is("copy(2, 0, 1, 40, 0)", x.copy(2, 0, 1, 40, 0), 0);
        due.is("copy(2, 0, 1, 0, 1)", x.copy(2, 0, 1, 0, 1), -12);
        due.is("copy(1, 0, 2, 0, 1)", x.copy(1, 0, 2, 0, 1), -12);
        due.by("promise 36: as they were, below 0, too");
        for (int sort = 0; sort < 3; sort++) {
            RugIsJurisdiction y = new RugIsJurisdiction();
            Due.row(y, 0, sort, -1, 0);
            Due.row(y, 1, sort, 5, 5);
            due.is("copy(0, 0, 1, 1, 1)", y.copy(0, 0, 1, 1, 1), 1);
            due.is("it tells no walk", y.walk(1, 0), BAD);
            y.cell(1, 1, 4);
            due.is("but then", y.walk(1, 0), -1);
        }
    }

    private static RugIsJurisdiction withInts() {
        RugIsJurisdiction x = Due.rich();
        Due.row(x, 3, 2, 4, 5, 6);
        return x;
    }

    private static void promise36Bad() {
        due.by("promise 36: BAD: SHEETS (ahead of all else)");
        for (int s : NO_SHEETS) {
            for (int other : new int[] {0, 1, 3, 4, -1}) {
                due.changesNothing("copy(" + s + ", 0, " + other + ", 0, 1)", Due::rich, x -> x.copy(s, 0, other, 0, 1),
                    BAD);
                due.changesNothing("copy(" + other + ", 0, " + s + ", 0, 1)", Due::rich, x -> x.copy(other, 0, s, 0, 1),
                    BAD);
            }
            due.changesNothing("copy(" + s + ", -1, 0, 0, -1)", Due::rich, x -> x.copy(s, -1, 0, 0, -1), BAD);
            due.changesNothing("copy(0, -1, " + s + ", 0, -1)", Due::rich, x -> x.copy(0, -1, s, 0, -1), BAD);
        }
    }

    private static void promise36Missing() {
        due.by("promise 36: -11 (ahead of -13, -12)");
        for (int s = 0; s < 4; s++) {
            int of = s;
            for (int n : new int[] {-1, 0, 1, 41}) {
                due.changesNothing("copy(" + s + ", 0, 3, 0, " + n + ")", Due::rich, x -> x.copy(of, 0, 3, 0, n), -11);
                due.changesNothing("copy(3, 0, " + s + ", 0, " + n + ")", Due::rich, x -> x.copy(3, 0, of, 0, n), -11);
            }
        }
    }

    private static void promise36Unlike() {
        due.by("promise 36: -13: unlike sorts (ahead of -12)");
        for (int s = 0; s < 3; s++) {
            for (int other = 0; other < 3; other++) {
                int from = s;
                int to = other;
                if (s != other) {
                    for (int n : new int[] {-1, 0, 1, 41}) {
                        due.changesNothing("copy(" + s + ", 0, " + other + ", 0, " + n + ")", Due::rich,
                            x -> x.copy(from, 0, to, 0, n), -13);
                        due.changesNothing("copy(" + s + ", -1, " + other + ", 40, " + n + ")", Due::rich,
                            x -> x.copy(from, -1, to, 40, n), -13);
                    }
                }
            }
        }
    }

    private static void promise36Outside() {
        due.by("promise 36: -12 (n below 0, too)");
        // Sheet 2 has 7 numbers, sheet 3 has 3.
        int[][] outside = {
            {-1, 0, 1}, {-1, 0, 0}, {LEAST, 0, 1}, {0, -1, 1}, {0, -1, 0}, {0, LEAST, 1}, {0, 0, -1}, {0, 0, LEAST},
            {7, 3, -1}, {0, 0, 4}, {0, 1, 3}, {0, 2, 2}, {0, 3, 1}, {0, 4, 0}, {0, 4, -1}, {5, 0, 3}, {6, 0, 2}, {7, 0, 1},
            {8, 0, 0}, {8, 3, 0}, {7, 4, 0}, {0, 0, MOST}, {1, 1, MOST}, {MOST, 0, 1}, {0, MOST, 1}, {MOST, MOST, MOST},
            {MOST, 0, 0}, {0, MOST, 0}, {LEAST, LEAST, LEAST}
        };
        for (int[] o : outside) {
            due.changesNothing("copy(2, " + o[0] + ", 3, " + o[1] + ", " + o[2] + ")", HostBoundsTest::withInts,
                x -> x.copy(2, o[0], 3, o[1], o[2]), -12);
        }
        int[][] inside = {{7, 3, 0}, {7, 0, 0}, {0, 3, 0}, {4, 0, 3}, {6, 2, 1}, {5, 1, 2}, {0, 0, 3}};
        for (int[] i : inside) {
            due.is("copy(2, " + i[0] + ", 3, " + i[1] + ", " + i[2] + ")", withInts().copy(2, i[0], 3, i[1], i[2]), i[2]);
        }
        due.by("promise 36: -12 (none comes)");
        RugIsJurisdiction x = reading();
        Due.row(x, 0, 2, 1, 2, 3);
        Due.row(x, 1, 2, 4, 5, 6);
        due.is("copy(0, 1, 1, 0, 3)", x.copy(0, 1, 1, 0, 3), -12);
        due.is("copy(0, 0, 1, 1, 3)", x.copy(0, 0, 1, 1, 3), -12);
        due.is("copy(0, 0, 0, 1, 3)", x.copy(0, 0, 0, 1, 3), -12);
        are(x, 1, 3, 4, 5, 6);
        are(x, 0, 3, 1, 2, 3);
    }

    private static void rugIs(RugIsJurisdiction x, int r, int kindMore, int corners) {
        due.is("told(" + r + ", 0)", x.told(r, 0), corners);
        due.is("told(" + r + ", 1)", x.told(r, 1), corners < 0 ? corners : 0);
        due.is("told(" + r + ", 2)", x.told(r, 2), corners < 0 ? corners : kindMore / 10);
        due.is("told(" + r + ", 3)", x.told(r, 3), corners < 0 ? corners : kindMore % 10);
    }

    private static void promise37TwoByTwo() {
        due.by("promise 37: from a place on, two by two (as of spread()), n of them (0 .. 6): how many came");
        int[] row = {0, 35, 59, 3535, 11, 7, 22, 714, 33, 505, 44, 3030, 1};
        for (int from = 0; from <= 13; from++) {
            for (int n = 0; n <= 6; n++) {
                if (n == 0 || from + 2 * n <= 13) {
                    RugIsJurisdiction x = new RugIsJurisdiction();
                    Due.row(x, 1, 2, row);
                    int want = 0;
                    int[] came = new int[6];
                    for (int k = 0; k < n; k++) {
                        int at = from + 2 * k;
                        if (from % 2 == 0 || isRug(row[at], row[at + 1])) {
                            came[want++] = at;
                        }
                    }
                    due.is("rugsBy(1, 2, " + from + ", " + n + ")", x.rugsBy(1, 2, from, n), want);
                    due.is("count(0)", x.count(0), want);
                    for (int r = 0; r < want; r++) {
                        rugIs(x, r, row[came[r]], row[came[r] + 1]);
                    }
                    rugIs(x, want, 0, -5);
                }
            }
        }
    }

    private static boolean isRug(int kindMore, int corners) {
        return kindMore >= 0 && kindMore < 60 && new RugIsJurisdiction().spread(kindMore, corners) == 0;
    }

    private static void promise37LeftOut() {
        due.by("promise 37: how many came (others are left out)");
        int[][] pairs = {
            {0, 36}, {60, 0}, {-1, 0}, {59, 3535}, {0, 100}, {0, -1}, {59, 3600}, {LEAST, MOST}, {0, 0}, {0, 601}
        };
        int[] row = new int[20];
        for (int i = 0; i < 10; i++) {
            row[2 * i] = pairs[i][0];
            row[2 * i + 1] = pairs[i][1];
        }
        RugIsJurisdiction x = new RugIsJurisdiction();
        Due.row(x, 0, 2, row);
        due.is("rugsBy(0, 2, 0, 3)", x.rugsBy(0, 2, 0, 3), 0);
        due.is("rugsBy(0, 2, 8, 4)", x.rugsBy(0, 2, 8, 4), 0);
        due.is("count(0)", x.count(0), 0);
        due.is("rugsBy(0, 2, 0, 4)", x.rugsBy(0, 2, 0, 4), 1);
        due.is("rugsBy(0, 2, 6, 6)", x.rugsBy(0, 2, 6, 6), 2);
        due.is("count(0)", x.count(0), 3);
        rugIs(x, 0, 59, 3535);
        rugIs(x, 1, 59, 3535);
        rugIs(x, 2, 0, 0);
    }

    private static void promise37Full() {
        due.by("promise 37: how many came (others are left out): those that have no room, too");
        for (int had = 0; had <= 6; had++) {
            RugIsJurisdiction x = new RugIsJurisdiction();
            for (int r = 0; r < had; r++) {
                x.spread(0, 0);
            }
            Due.row(x, 0, 1, 11, 0, 12, 0, 13, 0, 14, 0, 15, 0, 16, 0);
            due.is("rugsBy(0, 1, 0, 6) on " + had, x.rugsBy(0, 1, 0, 6), 6 - had);
            due.is("count(0)", x.count(0), 6);
            for (int r = had; r < 6; r++) {
                rugIs(x, r, 11 + r - had, 0);
            }
            due.is("rugsBy(0, 1, 0, 6) on six", x.rugsBy(0, 1, 0, 6), 0);
            due.is("rugsBy(0, 1, 2, 6) on six", x.rugsBy(0, 1, 2, 6), -12);
            due.is("spread on six", x.spread(0, 0), FULL);
        }
    }

    private static void promise37Outside() {
        due.by("promise 37: -12: what stood ahead came");
        for (int size = 0; size <= 13; size++) {
            for (int from = 0; from <= size + 1; from++) {
                RugIsJurisdiction x = new RugIsJurisdiction();
                int[] row = new int[size];
                java.util.Arrays.fill(row, 7);
                Due.row(x, 0, 0, row);
                int stand = Math.min(6, Math.max(0, (size - from) / 2));
                if (stand < 6) {
                    due.is("rugsBy(0, 0, " + from + ", " + (stand + 1) + ") of " + size, x.rugsBy(0, 0, from, stand + 1), -12);
                    due.is("count(0)", x.count(0), stand);
                    rugIs(x, stand - 1, 7, stand == 0 ? -5 : 7);
                }
            }
        }
        for (int from : new int[] {LEAST, -7, -2, -1, 6, 7, 8, MOST - 1, MOST}) {
            for (int n : new int[] {1, 6}) {
                due.changesNothing("rugsBy(2, 2, " + from + ", " + n + ")", Due::rich, x -> x.rugsBy(2, 2, from, n), -12);
            }
        }
    }

    private static void promise37Refusals() {
        due.by("promise 37: BAD: SHEET, sort, n (ahead of all else)");
        for (int s : NO_SHEETS) {
            due.changesNothing("rugsBy(" + s + ", 2, 0, 1)", Due::rich, x -> x.rugsBy(s, 2, 0, 1), BAD);
            due.changesNothing("rugsBy(" + s + ", 2, -1, 1)", Due::rich, x -> x.rugsBy(s, 2, -1, 1), BAD);
        }
        for (int s = 0; s < 4; s++) {
            int of = s;
            for (int sort : new int[] {LEAST, -2, 3, 4, MOST}) {
                due.changesNothing("rugsBy(" + s + ", " + sort + ", 0, 1)", Due::rich, x -> x.rugsBy(of, sort, 0, 1), BAD);
            }
            for (int n : new int[] {LEAST, -1, 7, 8, MOST}) {
                for (int sort = 0; sort < 3; sort++) {
                    int by = sort;
                    due.changesNothing("rugsBy(" + s + ", " + sort + ", 0, " + n + ")", Due::rich,
                        x -> x.rugsBy(of, by, 0, n), BAD);
                    due.changesNothing("rugsBy(" + s + ", " + sort + ", -1, " + n + ")", Due::rich,
                        x -> x.rugsBy(of, by, -1, n), BAD);
                }
            }
        }
        for (int sort = 0; sort < 3; sort++) {
            int by = sort;
            for (int from : new int[] {-1, 0, 40}) {
                due.by("promise 37: -11 (ahead of -13, -12)");
                due.changesNothing("rugsBy(3, " + sort + ", " + from + ", 1)", Due::rich, x -> x.rugsBy(3, by, from, 1), -11);
                due.by("promise 37: -13 (ahead of -12)");
                for (int s = 0; s < 3; s++) {
                    int of = s;
                    if (s != sort) {
                        due.changesNothing("rugsBy(" + s + ", " + sort + ", " + from + ", 1)", Due::rich,
                            x -> x.rugsBy(of, by, from, 1), -13);
                    }
                }
            }
        }
        due.by("promise 37: n of them (0 .. 6)");
        for (int n = 0; n <= 6; n++) {
            RugIsJurisdiction x = new RugIsJurisdiction();
            x.sheet(0, 1, 12);
            due.is("rugsBy(0, 1, 0, " + n + ")", x.rugsBy(0, 1, 0, n), n);
            due.is("count(0)", x.count(0), n);
        }
    }

    private static void promise37OfEachSort() {
        due.by("promise 37: RUGS by a SHEET of a sort");
        for (int s = 0; s < 4; s++) {
            for (int sort = 0; sort < 3; sort++) {
                RugIsJurisdiction x = new RugIsJurisdiction();
                Due.row(x, s, sort, 59, 35, 11, 3535);
                // A byte can't be 3535: its lowest bits are those of -49.
                due.is("rugsBy(" + s + ", " + sort + ", 0, 2)", x.rugsBy(s, sort, 0, 2), sort == 0 ? 1 : 2);
                rugIs(x, 0, 59, 35);
                rugIs(x, 1, 11, sort == 0 ? -5 : 3535);
            }
        }
    }

    private static RugIsJurisdiction oneOfEachKind() {
        RugIsJurisdiction x = new RugIsJurisdiction();
        for (int kind = 0; kind < 6; kind++) {
            x.spread(10 * kind + 9 - kind, 101 * kind);
            x.put(kind, 1, new int[] {0, 1, 50, 97, 98, 99}[kind]);
        }
        return x;
    }

    private static void promise38Rugs() {
        due.by("promise 38: taken for 0 .. 5 a RUG of that KIND (also of one that is one): the number");
        boolean[][] is = {
            {true, false, false, false, false, false},
            {true, true, false, false, false, false},
            {true, false, true, false, false, false},
            {true, true, false, true, false, false},
            {true, false, true, false, true, false},
            {true, false, false, false, false, true}
        };
        for (int r = 0; r < 6; r++) {
            for (int kind = 0; kind < 6; kind++) {
                int i = r;
                int as = kind;
                due.changesNothing("taken(" + r + ", " + kind + ")", HostBoundsTest::oneOfEachKind, x -> x.taken(i, as),
                    is[r][kind] ? r : -13);
            }
        }
        due.by("promise 38: -13: a RUG is no GUESTS");
        for (int r = 0; r < 6; r++) {
            int i = r;
            due.changesNothing("taken(" + r + ", 6)", HostBoundsTest::oneOfEachKind, x -> x.taken(i, 6), -13);
        }
    }

    private static void promise38Guests() {
        due.by("promise 38: 6 .. 11 how many GUESTS they have, taken for 6 GUESTS: the number");
        int[] guests = {0, 1, 50, 97, 98, 99};
        for (int r = 0; r < 6; r++) {
            int i = 6 + r;
            due.changesNothing("taken(" + i + ", 6)", HostBoundsTest::oneOfEachKind, x -> x.taken(i, 6), guests[r]);
            due.by("promise 38: -13: GUESTS are no RUG");
            for (int kind = 0; kind < 6; kind++) {
                int as = kind;
                due.changesNothing("taken(" + i + ", " + kind + ")", HostBoundsTest::oneOfEachKind, x -> x.taken(i, as), -13);
            }
        }
    }

    private static void promise38Refusals() {
        due.by("promise 38: BAD: kind (ahead of all else)");
        for (int kind : new int[] {LEAST, -1, 7, 8, MOST}) {
            for (int i : new int[] {-1, 0, 5, 6, 11, 12}) {
                due.changesNothing("taken(" + i + ", " + kind + ")", Due::rich, x -> x.taken(i, kind), BAD);
            }
        }
        due.by("promise 38: -12: i");
        for (int i : new int[] {LEAST, -6, -1, 12, 13, 18, MOST}) {
            for (int kind = 0; kind <= 6; kind++) {
                int as = kind;
                due.changesNothing("taken(" + i + ", " + kind + ")", Due::rich, x -> x.taken(i, as), -12);
                due.is("taken(" + i + ", " + kind + ") of six", oneOfEachKind().taken(i, kind), -12);
            }
        }
        due.by("promise 38: -11: no such RUG (ahead of -13)");
        for (int n = 0; n <= 6; n++) {
            RugIsJurisdiction x = new RugIsJurisdiction();
            for (int r = 0; r < n; r++) {
                x.spread(20, 0);
            }
            for (int r = 0; r < 6; r++) {
                for (int kind = 0; kind <= 6; kind++) {
                    int want = r >= n ? -11 : kind == 0 || kind == 2 ? r : -13;
                    due.is("taken(" + r + ", " + kind + ") of " + n, x.taken(r, kind), want);
                    int guests = r >= n ? -11 : kind == 6 ? 0 : -13;
                    due.is("taken(" + (6 + r) + ", " + kind + ") of " + n, x.taken(6 + r, kind), guests);
                }
            }
        }
    }
}
