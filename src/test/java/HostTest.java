/** Promises 34 .. 38: the host. */
public final class HostTest {
    private static final Due due = new Due("host");

    public static void main(String[] args) {
        sheets();
        cells();
        copies();
        copiesWrongly();
        rugsBy();
        rugsByWrongly();
        taken();
        due.end();
    }

    private static void sheets() {
        RugIsJurisdiction x = new RugIsJurisdiction();
        due.is("sheet -1", x.sheet(-1, 0, 1), -2);
        due.is("sheet 4", x.sheet(4, -1, 1), -2);
        due.is("sort -2", x.sheet(0, -2, 1), -2);
        due.is("sort 3", x.sheet(0, 3, 1), -2);
        due.is("n 41", x.sheet(0, 0, 41), -2);
        due.is("n most", x.sheet(0, 2, Integer.MAX_VALUE), -2);
        due.is("n -1", x.sheet(0, 0, -1), -14);
        due.is("n least", x.sheet(0, 2, Integer.MIN_VALUE), -14);
        due.is("BAD first", x.sheet(0, 3, -1), -2);
        due.is("BAD first", x.sheet(4, 0, -1), -2);
        due.is("still missing", x.cell(0, 0, 0), -11);
        for (int sort = 0; sort < 3; sort++) {
            due.is("n 40", x.sheet(sort, sort, 40), 1);
            due.is("the last place", x.cell(sort, 39, 1), 1);
            due.is("outside", x.cell(sort, 40, 1), -12);
            due.is("n 0", x.sheet(3, sort, 0), 1);
            due.is("outside", x.cell(3, 0, 1), -12);
        }
        for (int n : new int[] {0, 41, -1, Integer.MAX_VALUE, Integer.MIN_VALUE}) {
            x.sheet(0, 2, 1);
            due.is("missing, n " + n, x.sheet(0, -1, n), 1);
            due.is("missing", x.cell(0, 0, 1), -11);
        }
        Due.row(x, 1, 1, 9, 9, 9, 9);
        x.sheet(1, -1, 0);
        x.sheet(1, 1, 2);
        due.is("all 0 by fines", x.judge(1, 0), -1);
        Due.row(x, 1, 1, 9, 9, 9, 9);
        x.sheet(1, 1, 4);
        due.is("all 0 anew", x.judge(1, 0), -1);
        Due.row(x, 1, 1, 9, 9);
        due.is("refused", x.sheet(1, 1, -1), -14);
        due.is("changes nothing", x.judge(1, 0), 0);
    }

    /** What number a sheet holds at a place, read by ants' more or by a rug's corners. */
    private static boolean holds(RugIsJurisdiction x, int s, int fined) {
        return x.judge(s, fined) == -1;
    }

    private static void cells() {
        RugIsJurisdiction x = new RugIsJurisdiction();
        due.is("no sheet", x.cell(-1, 0, 0), -2);
        due.is("no sheet", x.cell(4, 0, 0), -2);
        due.is("missing", x.cell(3, -1, 0), -11);
        // Ants fine their more on cell 1; none is fined on cell 0.
        x.spread(59, 101);
        for (int sort = 0; sort < 3; sort++) {
            Due.row(x, 0, sort, 0);
            due.is("outside", x.cell(0, 1, 0), -12);
            due.is("outside", x.cell(0, -1, 0), -12);
            due.is("9", x.cell(0, 0, 9), 1);
            due.is("is 9", holds(x, 0, 1) ? 1 : 0, 1);
            x.cell(0, 0, 256 + 9);
            due.is("lowest 8 bits, sort " + sort, holds(x, 0, 1) ? 1 : 0, sort == 0 ? 1 : 0);
            x.cell(0, 0, 65536 + 9);
            due.is("lowest 16 bits, sort " + sort, holds(x, 0, 1) ? 1 : 0, sort <= 1 ? 1 : 0);
            x.cell(0, 0, -256);
            due.is("lowest 8 bits, sort " + sort, holds(x, 0, 0) ? 1 : 0, sort == 0 ? 1 : 0);
            x.cell(0, 0, Integer.MIN_VALUE);
            due.is("lowest bits, sort " + sort, holds(x, 0, 0) ? 1 : 0, sort <= 1 ? 1 : 0);
            due.is("no more places", x.cell(0, Integer.MAX_VALUE, 0), -12);
            due.is("no more places", x.cell(0, Integer.MIN_VALUE, 0), -12);
        }
    }

    private static void are(RugIsJurisdiction x, int s, int... cells) {
        // Each cell of the common fines its number under the law of copies().
        for (int i = 0; i < cells.length; i++) {
            x.sheet(3, 2, 1);
            x.copy(s, i, 3, 0, 1);
            due.is("place " + i, x.where(3), Due.bits(cells[i]));
        }
    }

    private static void copies() {
        RugIsJurisdiction x = Due.under("fines column + 6 * row ; admits 1 ; sleeps 0 ;");
        x.spread(0, 35);
        Due.row(x, 0, 2, 10, 11, 12, 13, 14);
        Due.row(x, 1, 2, 20, 21, 22);
        are(x, 0, 10, 11, 12, 13, 14);
        due.is("to another one", x.copy(0, 1, 1, 0, 2), 2);
        are(x, 1, 11, 12, 22);
        due.is("up its own", x.copy(0, 0, 0, 1, 4), 4);
        are(x, 0, 10, 10, 11, 12, 13);
        due.is("down its own", x.copy(0, 1, 0, 0, 4), 4);
        are(x, 0, 10, 11, 12, 13, 13);
        due.is("none", x.copy(0, 5, 1, 3, 0), 0);
        due.is("all", x.copy(1, 0, 0, 2, 3), 3);
        are(x, 0, 10, 11, 11, 12, 22);
        due.is("itself", x.copy(0, 0, 0, 0, 5), 5);
        are(x, 0, 10, 11, 11, 12, 22);
    }

    private static void copiesWrongly() {
        RugIsJurisdiction x = new RugIsJurisdiction();
        Due.row(x, 0, 2, 1, 2, 3);
        Due.row(x, 1, 1, 1, 2, 3);
        Due.row(x, 2, 2, 1, 2);
        due.is("no sheet", x.copy(-1, 0, 3, 0, 1), -2);
        due.is("no sheet", x.copy(3, 0, 4, 0, 1), -2);
        due.is("no sheet", x.copy(4, 0, 0, 0, 1), -2);
        due.is("no sheet", x.copy(0, 0, -1, 0, 1), -2);
        due.is("missing", x.copy(3, -1, 0, 0, 1), -11);
        due.is("missing", x.copy(0, -1, 3, 0, 1), -11);
        due.is("unlike sorts", x.copy(0, -1, 1, 0, 1), -13);
        due.is("unlike sorts", x.copy(1, 0, 0, 0, 0), -13);
        int[][] outside = {
            {-1, 0, 1}, {0, -1, 1}, {0, 0, -1}, {0, 0, 3}, {1, 0, 3}, {3, 0, 1}, {0, 2, 1}, {4, 0, 0}, {0, 3, 0},
            {Integer.MAX_VALUE, 0, 1}, {0, Integer.MAX_VALUE, 1}, {0, 0, Integer.MAX_VALUE},
            {Integer.MAX_VALUE, 0, Integer.MAX_VALUE}, {0, 0, Integer.MIN_VALUE}, {Integer.MIN_VALUE, 0, 1},
            {1, 1, Integer.MAX_VALUE}
        };
        for (int[] o : outside) {
            due.is("outside " + o[0] + " " + o[1] + " " + o[2], x.copy(0, o[0], 2, o[1], o[2]), -12);
        }
    }

    private static void rugsBy() {
        for (int sort = 0; sort < 3; sort++) {
            RugIsJurisdiction x = new RugIsJurisdiction();
            Due.row(x, 0, sort, 99, 14, 107, 60, 0, 59, 35, 59, 100, 21, 28);
            due.is("two, one of them left out", x.rugsBy(0, sort, 1, 2), 1);
            due.is("kind", x.told(0, 2), 1);
            due.is("more", x.told(0, 3), 4);
            due.is("corners", x.told(0, 0), 107);
            due.is("two of three", x.rugsBy(0, sort, 5, 3), 2);
            due.is("kind", x.told(1, 2), 5);
            due.is("corners", x.told(2, 0), 28);
            due.is("none asked", x.rugsBy(0, sort, 1, 0), 0);
            due.is("half a pair", x.rugsBy(0, sort, 10, 1), -12);
            due.is("past its end", x.rugsBy(0, sort, 9, 2), -12);
            due.is("what stood ahead came", x.count(0), 4);
            Due.row(x, 1, sort, 0, 0, 1, 1, 2, 2, 3, 3);
            due.is("as many as have room", x.rugsBy(1, sort, 0, 4), 2);
            due.is("none has room", x.rugsBy(1, sort, 0, 4), 0);
            due.is("outside all the same", x.rugsBy(1, sort, 0, 5), -12);
            due.is("rugs", x.count(0), 6);
        }
    }

    private static void rugsByWrongly() {
        RugIsJurisdiction x = new RugIsJurisdiction();
        Due.row(x, 0, 1, 0, 0, 0, 0);
        due.is("no sheet", x.rugsBy(-1, 1, 0, 1), -2);
        due.is("no sheet", x.rugsBy(4, 1, 0, 1), -2);
        due.is("sort -1", x.rugsBy(1, -1, 0, 1), -2);
        due.is("sort 3", x.rugsBy(1, 3, 0, 1), -2);
        due.is("n -1", x.rugsBy(1, 1, 0, -1), -2);
        due.is("n 7", x.rugsBy(1, 1, 0, 7), -2);
        due.is("missing", x.rugsBy(1, 1, -1, 1), -11);
        due.is("another sort", x.rugsBy(0, 0, -1, 1), -13);
        due.is("another sort", x.rugsBy(0, 2, 0, 1), -13);
        due.is("from -1", x.rugsBy(0, 1, -1, 1), -12);
        due.is("from 4", x.rugsBy(0, 1, 4, 1), -12);
        due.is("from most", x.rugsBy(0, 1, Integer.MAX_VALUE, 6), -12);
        due.is("from least", x.rugsBy(0, 1, Integer.MIN_VALUE, 6), -12);
        due.is("none came", x.count(0), 0);
        due.is("n 6, of which 2 stand there", x.rugsBy(0, 1, 0, 6), -12);
        due.is("they came", x.count(0), 2);
    }

    private static void taken() {
        RugIsJurisdiction x = new RugIsJurisdiction();
        for (int kind = 0; kind < 6; kind++) {
            x.spread(10 * kind, 0);
            x.put(kind, 1, 20 + kind);
        }
        String[] takes = {"0", "01", "02", "013", "024", "05"};
        for (int r = 0; r < 6; r++) {
            for (int kind = 0; kind < 6; kind++) {
                boolean fits = takes[r].indexOf('0' + kind) >= 0;
                due.is("taken(" + r + ", " + kind + ")", x.taken(r, kind), fits ? r : -13);
                due.is("guests are no rug", x.taken(6 + r, kind), -13);
            }
            due.is("a rug is no number", x.taken(r, 6), -13);
            due.is("guests", x.taken(6 + r, 6), 20 + r);
        }
        RugIsJurisdiction y = new RugIsJurisdiction();
        y.spread(0, 0);
        due.is("kind 7", y.taken(12, 7), -2);
        due.is("kind -1", y.taken(-1, -1), -2);
        due.is("i 12", y.taken(12, 0), -12);
        due.is("i -1", y.taken(-1, 6), -12);
        due.is("no rug", y.taken(1, 6), -11);
        due.is("no rug", y.taken(1, 0), -11);
        due.is("no rug's guests", y.taken(7, 0), -11);
        due.is("no rug's guests", y.taken(11, 6), -11);
        due.is("the guests of the first one", y.taken(6, 6), 0);
    }
}
