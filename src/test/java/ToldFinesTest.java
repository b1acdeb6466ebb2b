/** Promises 24 .. 29: told fines. */
public final class ToldFinesTest {
    private static final Due due = new Due("told fines");
    private static final long NO = RugIsJurisdiction.NO;

    public static void main(String[] args) {
        judges();
        kinds();
        crowds();
        where();
        laws();
        films();
        refusals();
        nothingChanges();
        due.end();
    }

    private static void told(RugIsJurisdiction x, int s, int n, int fined) {
        int[] fines = new int[n];
        java.util.Arrays.fill(fines, fined);
        Due.row(x, s, 2, fines);
    }

    private static void judges() {
        RugIsJurisdiction x = new RugIsJurisdiction();
        x.spread(0, 7);
        x.put(0, 1, 8);
        int[] day = new int[24];
        for (int h = 6; h < 24; h++) {
            day[h] = 9;
        }
        for (int sort = 0; sort < 3; sort++) {
            Due.row(x, 0, sort, day);
            due.is("as told", x.judge(0, 7), -1);
            due.is("another cell", x.judge(0, 8), 6);
            x.cell(0, 23, 8);
            due.is("the last hour", x.judge(0, 0), 23);
            x.cell(0, 6, 10);
            due.is("the first that is otherwise", x.judge(0, 0), 6);
            x.cell(0, 0, -1);
            due.is("hour 0", x.judge(0, 0), 0);
        }
        Due.row(x, 0, 1);
        due.is("nothing told", x.judge(0, 0), -1);
        due.is("the hour is as it was", x.count(1), 12);
        RugIsJurisdiction y = Due.under("fines hour * 5 ; admits 1 ; sleeps 0 ;");
        y.spread(30, 0);
        int[] twice = new int[24];
        for (int h = 0; h < 24; h++) {
            twice[h] = Math.min(99, 5 * h) * 2;
        }
        Due.row(y, 0, 2, twice);
        due.is("ints", y.judge(0, 0), -1);
        Due.row(y, 0, 1, twice);
        due.is("shorts", y.judge(0, 0), -1);
        Due.row(y, 0, 0, twice);
        due.is("a byte above 127 is below 0", y.judge(0, 0), 13);
    }

    private static void kinds() {
        RugIsJurisdiction x = new RugIsJurisdiction();
        x.spread(3, 14);
        // Nothing told: all fit.
        Due.row(x, 0, 0);
        due.is("all kinds", x.kinds(0, 0, 0, 0), 63);
        due.is("all more", x.kinds(0, 0, 0, 1), 1023);
        // By kind, what cells 7 (within) and 0 (fringe) are fined at hours 0 .. 15.
        for (int kind = 0; kind < 6; kind++) {
            for (int c = 0; c <= 7; c += 7) {
                int[] fines = new int[16];
                for (int h = 0; h < 16; h++) {
                    boolean asNurse = h < 6 || h == 14 || h == 15;
                    boolean sleeps = kind == 2 ? asNurse : kind == 4 ? !asNurse : kind < 4 && h < 6;
                    int within = kind == 3 ? 22 : kind == 4 ? 5 : kind == 5 ? 3 : 11;
                    int fringe = kind == 1 ? 17 : kind == 3 ? 34 : kind == 4 ? 0 : within;
                    fines[h] = sleeps ? 0 : c == 7 ? within : fringe;
                }
                x.put(0, 1, 10);
                Due.row(x, 0, 1, fines);
                // Within, a tartan is as a rug.
                int want = c == 7 && kind < 2 ? 3 : 1 << kind;
                due.is("kinds, kind " + kind + ", cell " + c, x.kinds(0, c, 0, 0), want);
            }
        }
        RugIsJurisdiction y = new RugIsJurisdiction();
        y.spread(10, 0);
        Due.row(y, 0, 0, 0, 0, 0, 0, 0, 0, 19);
        due.is("more 9", y.kinds(0, 0, 0, 1), 1 << 9);
        y.cell(0, 6, 20);
        due.is("no such more", y.kinds(0, 0, 0, 1), 0);
        y.cell(0, 6, 1);
        due.is("more 0", y.kinds(0, 0, 0, 1), 1);
        due.is("kinds of more 0", y.kinds(0, 0, 0, 0), Due.bits(0, 1, 2));
        due.is("kind as it was", y.told(0, 2), 1);
        due.is("more as it was", y.told(0, 3), 0);
    }

    private static void crowdsAre(RugIsJurisdiction x, int c, int r, int many, int least) {
        due.is("crowds(" + c + ", " + r + ", 0)", x.crowds(0, c, r, 0), many);
        due.is("crowds(" + c + ", " + r + ", 1)", x.crowds(0, c, r, 1), least);
    }

    private static void crowds() {
        RugIsJurisdiction x = new RugIsJurisdiction();
        x.spread(0, 0);
        x.put(0, 1, 5);
        Due.row(x, 0, 0);
        crowdsAre(x, 0, 0, 100, 0);
        Due.row(x, 0, 0, 0, 0, 0, 0, 0, 0, 43);
        crowdsAre(x, 0, 0, 1, 42);
        x.cell(0, 6, 99);
        crowdsAre(x, 0, 0, 2, 98);
        x.cell(0, 6, 100);
        crowdsAre(x, 0, 0, 0, -1);
        x.cell(0, 6, 1);
        crowdsAre(x, 0, 0, 1, 0);
        due.is("guests as they were", x.told(0, 1), 5);
        RugIsJurisdiction y = Due.under("fines 7 ; admits 1 ; sleeps guests < 30 ;");
        y.spread(52, 0);
        y.spread(0, 0);
        told(y, 0, 24, 7);
        crowdsAre(y, 0, 1, 70, 30);
        crowdsAre(y, 0, 0, 0, -1);
        told(y, 0, 24, 2);
        crowdsAre(y, 0, 1, 30, 0);
        crowdsAre(y, 0, 0, 100, 0);
    }

    private static void where() {
        RugIsJurisdiction x = new RugIsJurisdiction();
        x.spread(50, 7);
        x.spread(53, 735);
        told(x, 0, 24, 3);
        due.is("where ants rule", x.where(0), x.rules(1));
        told(x, 0, 24, 0);
        due.is("where none or the first one does", x.where(0), x.rules(0) | x.rules(-1));
        told(x, 0, 24, 1);
        due.is("nowhere", x.where(0), 0);
        told(x, 0, 0, 0);
        due.is("nothing told", x.where(0), (1L << 36) - 1);
        due.is("no sheet", x.where(-1), NO);
        due.is("no sheet", x.where(4), NO);
        due.is("missing", x.where(3), NO);
        told(x, 0, 25, 0);
        due.is("more than 24", x.where(0), NO);
    }

    private static void laws() {
        RugIsJurisdiction x = new RugIsJurisdiction();
        x.spread(0, 0);
        Due.text(x, "fines 1 ; admits 1 ; sleeps hour < 3 ;");
        Due.text(x, "fines hour < 6 ; admits 1 ; sleeps 0 ;");
        Due.text(x, "fines 6 < hour + 1 ; admits 1 ; sleeps 0 ;");
        Due.row(x, 0, 0, 0, 0, 0, 0, 0, 0, 1);
        due.is("as the first and the last one", x.laws(0, 0), 9);
        x.force(2);
        due.is("whichever is the law", x.laws(0, 0), 9);
        due.is("the law is as it was", x.count(3), 2);
        Due.row(x, 0, 0, 0, 0, 0, 1);
        due.is("the second one", x.laws(0, 0), 2);
        Due.row(x, 0, 0, 1);
        due.is("the third one", x.laws(0, 0), 4);
        Due.row(x, 0, 0);
        due.is("all there are", x.laws(0, 0), 15);
        due.is("where none rules", x.laws(0, 1), 15);
        Due.row(x, 0, 0, 9);
        due.is("none", x.laws(0, 0), 0);
    }

    private static void films() {
        RugIsJurisdiction x = Due.under("fines 50 + hour * 3 ; admits 1 ; sleeps hour = 2 ;");
        x.spread(39, 0);
        due.is("film", x.film(0, 0, 24), 24);
        due.is("as told", x.judge(0, 0), -1);
        for (int h = 0; h < 24; h++) {
            RugIsJurisdiction y = Due.under("fines 0 ; admits 1 ; sleeps 0 ;");
            y.spread(50, 0);
            x.sheet(1, 1, 24);
            x.copy(0, h, 1, 0, 1);
            x.strikes(h);
            due.is("film at " + h, x.over(0, 1), h == 2 ? 0 : 2 * (Math.min(99, 50 + 3 * h) + 18));
        }
        x.strikes(12);
        due.is("shorts", x.copy(0, 0, 1, 0, 24), 24);
        due.is("of no more than that", x.cell(0, 24, 0), -12);
        due.is("film of 0", x.film(2, 0, 0), 0);
        due.is("a sheet of 0", x.cell(2, 0, 0), -12);
        due.is("film of 1", x.film(0, 0, 1), 1);
        due.is("a sheet of 1", x.cell(0, 1, 0), -12);
        due.is("no sheet first", x.film(4, 36, 25), -2);
        due.is("no sheet", x.film(-1, 0, 0), -2);
        due.is("no cell first", x.film(3, 36, 25), -5);
        due.is("no cell", x.film(3, -1, 1), -5);
        due.is("n 25", x.film(3, 0, 25), -7);
        due.is("n -1", x.film(3, 0, -1), -7);
        due.is("still missing", x.cell(3, 0, 0), -11);
        due.is("the hour is as it was", x.count(1), 12);
        x.sheet(3, 0, 40);
        due.is("whatever it was", x.film(3, 1, 2), 2);
        due.is("shorts now", x.copy(3, 0, 1, 0, 2), 2);
    }

    private static void refusals() {
        RugIsJurisdiction x = new RugIsJurisdiction();
        x.spread(0, 0);
        for (int s : new int[] {-1, 4}) {
            due.is("judge, no sheet", x.judge(s, 36), -2);
            due.is("kinds, no sheet", x.kinds(s, 36, 1, 2), -2);
            due.is("crowds, no sheet", x.crowds(s, 36, 1, 2), -2);
            due.is("laws, no sheet", x.laws(s, 36), -2);
        }
        due.is("judge, missing", x.judge(0, 36), -11);
        due.is("kinds, missing", x.kinds(0, 36, 1, 2), -11);
        due.is("crowds, missing", x.crowds(0, 36, 1, 2), -11);
        due.is("laws, missing", x.laws(0, 36), -11);
        told(x, 0, 25, 0);
        due.is("judge, more than 24", x.judge(0, 36), -2);
        due.is("kinds, more than 24", x.kinds(0, 36, 1, 2), -2);
        due.is("crowds, more than 24", x.crowds(0, 36, 1, 2), -2);
        due.is("laws, more than 24", x.laws(0, 36), -2);
        told(x, 0, 24, 0);
        for (int c : new int[] {-1, 36}) {
            due.is("judge, no cell", x.judge(0, c), -5);
            due.is("kinds, no cell", x.kinds(0, c, 1, 2), -5);
            due.is("crowds, no cell", x.crowds(0, c, 1, 2), -5);
            due.is("laws, no cell", x.laws(0, c), -5);
        }
        for (int r : new int[] {-1, 1}) {
            due.is("kinds, no rug", x.kinds(0, 0, r, 2), -6);
            due.is("crowds, no rug", x.crowds(0, 0, r, 2), -6);
        }
        for (int what : new int[] {-1, 2}) {
            due.is("kinds, sort", x.kinds(0, 0, 0, what), -7);
            due.is("crowds, what", x.crowds(0, 0, 0, what), -7);
        }
    }

    private static void nothingChanges() {
        RugIsJurisdiction x = new RugIsJurisdiction();
        Due.text(x, "fines 5 ; admits 1 ; sleeps 0 ;");
        x.spread(27, 7);
        x.put(0, 1, 3);
        x.film(0, 0, 24);
        for (int what = 0; what < 2; what++) {
            x.kinds(0, 0, 0, what);
            x.crowds(0, 0, 0, what);
        }
        x.laws(0, 0);
        x.where(0);
        due.is("kind", x.told(0, 2), 2);
        due.is("more", x.told(0, 3), 7);
        due.is("guests", x.told(0, 1), 3);
        due.is("law", x.count(3), 0);
        due.is("hour", x.count(1), 12);
        due.is("the sheet", x.judge(0, 0), -1);
    }
}
