/** Promises 24 .. 29, sentence by sentence: the last value that is allowed, the first that is not, each refusal. */
public final class ToldFinesBoundsTest {
    private static final Due due = new Due("told fines, bounds");
    private static final int BAD = -2;
    private static final long NO = RugIsJurisdiction.NO, ALL = (1L << 36) - 1;
    private static final int LEAST = Integer.MIN_VALUE, MOST = Integer.MAX_VALUE;
    private static final int[] NO_SHEETS = {LEAST, -1, 4, 5, MOST}, NO_CELLS = {LEAST, -1, 36, 41, MOST};
    private static final String BY_HOUR = "fines hour ; admits 1 ; sleeps 0 ;";

    public static void main(String[] args) {
        refusalsOfSheets();
        refusalsOfCells();
        refusalsOfRugs();
        refusalsOfWhat();
        atMost24();
        promise24TheFirstThatIsOtherwise();
        promise24None();
        promise25Kinds();
        promise25More();
        promise26Crowds();
        promise27Where();
        promise28Laws();
        promise29Lengths();
        promise29AtTheHours();
        promise29Refusals();
        whatIsAskedChangesNothing();
        due.end();
    }

    private static RugIsJurisdiction withSheet(int sort, int many) {
        RugIsJurisdiction x = Due.rich();
        Due.row(x, 3, sort, new int[many]);
        return x;
    }

    private static void refusalsOfSheets() {
        due.by("promises 24 .. 26, 28: BAD: SHEET (ahead of all else)");
        for (int s : NO_SHEETS) {
            for (int c : new int[] {0, 36}) {
                due.changesNothing("judge(" + s + ", " + c + ")", Due::rich, x -> x.judge(s, c), BAD);
                due.changesNothing("laws(" + s + ", " + c + ")", Due::rich, x -> x.laws(s, c), BAD);
                due.changesNothing("kinds(" + s + ", " + c + ", 0, 0)", Due::rich, x -> x.kinds(s, c, 0, 0), BAD);
                due.changesNothing("crowds(" + s + ", " + c + ", 0, 0)", Due::rich, x -> x.crowds(s, c, 0, 0), BAD);
                due.changesNothing("kinds(" + s + ", " + c + ", 6, 2)", Due::rich, x -> x.kinds(s, c, 6, 2), BAD);
                due.changesNothing("crowds(" + s + ", " + c + ", 6, 2)", Due::rich, x -> x.crowds(s, c, 6, 2), BAD);
            }
            due.changesNothing("where(" + s + ")", Due::rich, x -> x.where(s), NO);
        }
        due.by("promises 24 .. 26, 28: -11 (ahead of all but BAD: SHEET)");
        for (int c : new int[] {0, 36}) {
            due.changesNothing("judge(3, " + c + ")", Due::rich, x -> x.judge(3, c), -11);
            due.changesNothing("laws(3, " + c + ")", Due::rich, x -> x.laws(3, c), -11);
            due.changesNothing("kinds(3, " + c + ", 0, 0)", Due::rich, x -> x.kinds(3, c, 0, 0), -11);
            due.changesNothing("crowds(3, " + c + ", 0, 0)", Due::rich, x -> x.crowds(3, c, 0, 0), -11);
            due.changesNothing("kinds(3, " + c + ", 6, 2)", Due::rich, x -> x.kinds(3, c, 6, 2), -11);
            due.changesNothing("crowds(3, " + c + ", 6, 2)", Due::rich, x -> x.crowds(3, c, 6, 2), -11);
        }
        due.changesNothing("where(3)", Due::rich, x -> x.where(3), NO);
        due.by("promises 24 .. 26, 28: BAD: it tells more than 24 (ahead of -5)");
        for (int sort = 0; sort < 3; sort++) {
            for (int many : new int[] {25, 40}) {
                int of = sort;
                for (int c : new int[] {0, 36}) {
                    due.changesNothing("judge of " + many, () -> withSheet(of, many), x -> x.judge(3, c), BAD);
                    due.changesNothing("laws of " + many, () -> withSheet(of, many), x -> x.laws(3, c), BAD);
                    due.changesNothing("kinds of " + many, () -> withSheet(of, many), x -> x.kinds(3, c, 6, 2), BAD);
                    due.changesNothing("crowds of " + many, () -> withSheet(of, many), x -> x.crowds(3, c, 6, 2), BAD);
                }
                due.changesNothing("where of " + many, () -> withSheet(of, many), x -> x.where(3), NO);
            }
        }
    }

    private static void refusalsOfCells() {
        due.by("promises 24 .. 26, 28: -5: no such CELL (ahead of -6, -7)");
        for (int c : NO_CELLS) {
            due.changesNothing("judge(1, " + c + ")", Due::rich, x -> x.judge(1, c), -5);
            due.changesNothing("laws(1, " + c + ")", Due::rich, x -> x.laws(1, c), -5);
            due.changesNothing("kinds(1, " + c + ", 0, 0)", Due::rich, x -> x.kinds(1, c, 0, 0), -5);
            due.changesNothing("crowds(1, " + c + ", 0, 0)", Due::rich, x -> x.crowds(1, c, 0, 0), -5);
            due.changesNothing("kinds(1, " + c + ", 6, 0)", Due::rich, x -> x.kinds(1, c, 6, 0), -5);
            due.changesNothing("crowds(1, " + c + ", 0, 2)", Due::rich, x -> x.crowds(1, c, 0, 2), -5);
            due.changesNothing("kinds(1, " + c + ", 6, 2)", Due::rich, x -> x.kinds(1, c, 6, 2), -5);
            due.changesNothing("crowds(1, " + c + ", 6, 2)", Due::rich, x -> x.crowds(1, c, 6, 2), -5);
        }
        RugIsJurisdiction x = withSheet(0, 0);
        for (int c : new int[] {0, 35}) {
            due.is("judge(3, " + c + ")", x.judge(3, c), -1);
            due.is("laws(3, " + c + ")", x.laws(3, c), 3);
            due.is("kinds(3, " + c + ", 0, 0)", x.kinds(3, c, 0, 0), 63);
            due.is("crowds(3, " + c + ", 0, 0)", x.crowds(3, c, 0, 0), 100);
        }
    }

    private static void refusalsOfRugs() {
        due.by("promises 25, 26: -6: no such RUG (ahead of -7)");
        for (int r : new int[] {LEAST, -1, 4, 6, MOST}) {
            for (int what : new int[] {-1, 0, 1, 2}) {
                due.changesNothing("kinds(1, 0, " + r + ", " + what + ")", Due::rich, x -> x.kinds(1, 0, r, what), -6);
                due.changesNothing("crowds(1, 0, " + r + ", " + what + ")", Due::rich, x -> x.crowds(1, 0, r, what), -6);
            }
        }
        RugIsJurisdiction six = new RugIsJurisdiction();
        Due.row(six, 0, 0);
        due.is("kinds(0, 0, 0, 0) of none", six.kinds(0, 0, 0, 0), -6);
        due.is("crowds(0, 0, 0, 0) of none", six.crowds(0, 0, 0, 0), -6);
        for (int r = 0; r < 6; r++) {
            six.spread(0, 0);
        }
        due.is("kinds(0, 0, 5, 1) of six", six.kinds(0, 0, 5, 1), 1023);
        due.is("kinds(0, 0, 6, 1) of six", six.kinds(0, 0, 6, 1), -6);
        due.is("crowds(0, 0, 5, 1) of six", six.crowds(0, 0, 5, 1), 0);
        due.is("crowds(0, 0, 6, 1) of six", six.crowds(0, 0, 6, 1), -6);
    }

    private static void refusalsOfWhat() {
        for (int what : new int[] {LEAST, -1, 2, 3, MOST}) {
            due.by("promise 25: -7: sort");
            due.changesNothing("kinds(1, 7, 3, " + what + ")", Due::rich, x -> x.kinds(1, 7, 3, what), -7);
            due.by("promise 26: -7: what");
            due.changesNothing("crowds(1, 7, 3, " + what + ")", Due::rich, x -> x.crowds(1, 7, 3, what), -7);
        }
    }

    private static void atMost24() {
        due.by("promise 24: A SHEET tells what a step would be FINED at HOURS 0, 1, .. (24 at most)");
        for (int sort = 0; sort < 3; sort++) {
            for (int many = 0; many <= 24; many++) {
                RugIsJurisdiction x = Due.under(BY_HOUR);
                x.spread(0, 0);
                int[] hours = new int[many];
                for (int h = 0; h < many; h++) {
                    hours[h] = h;
                }
                Due.row(x, 0, sort, hours);
                due.is("judge of " + many, x.judge(0, 0), -1);
                due.is("judge of " + many + " where none rules", x.judge(0, 1), many < 2 ? -1 : 1);
                due.is("where of " + many, x.where(0), many < 2 ? ALL : 1);
                due.is("laws of " + many, x.laws(0, 0) & 2, 2);
                due.is("kinds of " + many, x.kinds(0, 0, 0, 0) & 1, 1);
                due.is("crowds of " + many, x.crowds(0, 0, 0, 0), 100);
            }
        }
    }

    private static void promise24TheFirstThatIsOtherwise() {
        due.by("promise 24: the first that is otherwise");
        for (int sort = 0; sort < 3; sort++) {
            RugIsJurisdiction x = Due.under(BY_HOUR);
            x.spread(0, 3535);
            int[] hours = new int[24];
            for (int h = 0; h < 24; h++) {
                hours[h] = h;
            }
            Due.row(x, 2, sort, hours);
            for (int h = 23; h >= 0; h--) {
                x.cell(2, h, h + 1);
                due.is("judge, more at " + h, x.judge(2, 35), h);
                x.cell(2, h, h - 1);
                due.is("judge, less at " + h, x.judge(2, 35), h);
            }
            for (int h = 0; h < 24; h++) {
                due.is("judge, otherwise from " + h, x.judge(2, 35), h);
                x.cell(2, h, h);
            }
            due.is("judge, none", x.judge(2, 35), -1);
        }
    }

    private static void promise24None() {
        due.by("promise 24: -1: none");
        RugIsJurisdiction x = Due.under("fines 99 ; admits 1 ; sleeps hour < 12 ;");
        x.spread(39, 35);
        int[] fines = new int[24];
        for (int h = 12; h < 24; h++) {
            fines[h] = 234;
        }
        Due.row(x, 0, 1, fines);
        due.is("judge of shorts", x.judge(0, 0), -1);
        Due.row(x, 0, 2, fines);
        due.is("judge of ints", x.judge(0, 35), -1);
        Due.row(x, 0, 0, fines);
        due.is("judge of bytes, none of which is 234", x.judge(0, 0), 12);
        Due.row(x, 0, 2, 65536);
        due.is("an int isn't told by its lowest bits", x.judge(0, 0), 0);
        Due.row(x, 0, 1, 65536);
        due.is("a short is", x.judge(0, 0), -1);
        due.is("judge, with the hour as it is", x.strikes(0), 12);
        Due.row(x, 0, 2, fines);
        due.is("judge, at whatever hour", x.judge(0, 0), -1);
    }

    private static void kindsAre(RugIsJurisdiction x, int c, int r, int kinds, int more) {
        due.is("kinds(0, " + c + ", " + r + ", 0)", x.kinds(0, c, r, 0), kinds);
        due.is("kinds(0, " + c + ", " + r + ", 1)", x.kinds(0, c, r, 1), more);
    }

    private static void promise25Kinds() {
        due.by("promise 25: KINDS (sort 0; bits 0 .. 5) by which, were they a RUG's, that would be -1");
        RugIsJurisdiction x = Due.under("fines 4 ; admits 1 ; sleeps 0 ;");
        x.spread(4, 14);
        Due.row(x, 0, 1);
        kindsAre(x, 7, 0, 63, 1023);
        for (int fringe = 0; fringe < 2; fringe++) {
            int c = fringe == 0 ? 7 : 0;
            for (int kind = 0; kind < 6; kind++) {
                int want = 0;
                int[] told = film(kind, 4, 4, fringe == 1);
                for (int other = 0; other < 6; other++) {
                    want |= java.util.Arrays.equals(told, film(other, 4, 4, fringe == 1)) ? 1 << other : 0;
                }
                Due.row(x, 0, 1, told);
                due.is("kinds of kind " + kind + " on " + c, x.kinds(0, c, 0, 0), want);
            }
        }
        Due.row(x, 0, 1, 100);
        kindsAre(x, 0, 0, 0, 0);
        due.by("promise 25: KINDS of a rug that lies under another one, or elsewhere");
        Due.row(x, 0, 1, 0);
        kindsAre(x, 3, 0, 63, 1023);
        x.spread(50, 0);
        kindsAre(x, 0, 0, 63, 1023);
        // A league would sleep at hour 0, and the one under it rule.
        kindsAre(x, 0, 1, 32, 1);
    }

    /** What a day is fined by a kind, told by the document, under a law that fines so much and never sleeps. */
    private static int[] film(int kind, int more, int fined, boolean fringe) {
        int[] day = new int[24];
        for (int h = 0; h < 24; h++) {
            boolean nap = h == 14 || h == 15;
            switch (kind) {
                case 0: day[h] = fined; break;
                case 1: day[h] = fringe ? fined + 2 * more : fined; break;
                case 2: day[h] = nap ? 0 : fined; break;
                case 3: day[h] = fringe ? 2 * (fined + 2 * more) : 2 * fined; break;
                case 4: day[h] = !nap || fringe ? 0 : fined / 2; break;
                default: day[h] = more;
            }
        }
        return day;
    }

    private static void promise25More() {
        due.by("promise 25: MORE (1; bits 0 .. 9)");
        for (int more = 0; more < 10; more++) {
            RugIsJurisdiction x = new RugIsJurisdiction();
            x.spread(55, 0);
            Due.row(x, 0, 0, more, more, more);
            kindsAre(x, 0, 0, more == 5 ? 32 : more == 0 ? 31 : 0, 1 << more);
            RugIsJurisdiction y = Due.under("fines 0 ; admits 1 ; sleeps 0 ;");
            y.spread(12, 35);
            Due.row(y, 0, 0, 2 * more);
            due.is("kinds of a tartan, fringe", y.kinds(0, 0, 0, 1), 1 << more);
            y.put(0, 0, 14);
            due.is("kinds of a tartan, within", y.kinds(0, 7, 0, 1), more == 0 ? 1023 : 0);
            RugIsJurisdiction z = Due.under("fines more ; admits 1 ; sleeps more < 5 ;");
            z.spread(7, 0);
            Due.row(z, 0, 0, more);
            due.is("kinds of a text", z.kinds(0, 0, 0, 1), more == 0 ? 31 : more < 5 ? 0 : 1 << more);
        }
        RugIsJurisdiction x = new RugIsJurisdiction();
        x.spread(55, 0);
        for (int told : new int[] {-1, 10}) {
            Due.row(x, 0, 0, told);
            kindsAre(x, 0, 0, 0, 0);
        }
    }

    private static void crowdsAre(RugIsJurisdiction x, int many, int least) {
        due.is("crowds(0, 0, 0, 0)", x.crowds(0, 0, 0, 0), many);
        due.is("crowds(0, 0, 0, 1)", x.crowds(0, 0, 0, 1), least);
    }

    private static void promise26Crowds() {
        due.by("promise 26: GUESTS (0 .. 99): how many such (what 0), the least (1; -1: none)");
        for (int guests : new int[] {0, 1, 50, 98, 99}) {
            RugIsJurisdiction x = Due.under("fines guests ; admits 1 ; sleeps 0 ;");
            x.spread(0, 0);
            x.put(0, 1, 7);
            Due.row(x, 0, 0, guests, guests);
            crowdsAre(x, 1, guests);
            x.cell(0, 1, guests - 1);
            crowdsAre(x, 0, -1);
        }
        RugIsJurisdiction x = new RugIsJurisdiction();
        x.spread(0, 0);
        Due.row(x, 0, 1);
        crowdsAre(x, 100, 0);
        int[][] atSix = {{0, 0, -1}, {1, 1, 0}, {2, 1, 1}, {98, 1, 97}, {99, 2, 98}, {100, 0, -1}, {-1, 0, -1}};
        for (int[] a : atSix) {
            Due.row(x, 0, 1, 0, 0, 0, 0, 0, 0, a[0]);
            crowdsAre(x, a[1], a[2]);
        }
        RugIsJurisdiction y = Due.under("fines 50 < guests ; admits 1 ; sleeps guests = 99 ;");
        y.spread(0, 0);
        Due.row(y, 0, 0, 1);
        crowdsAre(y, 48, 51);
        Due.row(y, 0, 0, 0);
        crowdsAre(y, 52, 0);
        y.force(Due.text(y, "fines 50 ; admits 1 ; sleeps guests < 99 ;"));
        Due.row(y, 0, 0, 50);
        crowdsAre(y, 1, 99);
        Due.row(y, 0, 0, 0);
        crowdsAre(y, 99, 0);
    }

    private static void promise27Where() {
        due.by("promise 27: CELLS (bits) by which that would be -1");
        for (int c = 0; c < 36; c++) {
            RugIsJurisdiction x = Due.under("fines column + 6 * row ; admits 1 ; sleeps hour = 23 ;");
            x.spread(0, 35);
            int[] day = new int[24];
            java.util.Arrays.fill(day, 0, 23, c);
            Due.row(x, 0, 0, day);
            due.is("where " + c + " is told", x.where(0), 1L << c);
            x.cell(0, 23, c + 1);
            due.is("where " + c + " is told, but not at last", x.where(0), 0);
        }
        RugIsJurisdiction x = new RugIsJurisdiction();
        Due.row(x, 0, 2);
        due.is("where nothing is told", x.where(0), ALL);
        Due.row(x, 0, 2, new int[24]);
        due.is("where nothing is fined", x.where(0), ALL);
        Due.row(x, 0, 2, new int[25]);
        due.is("where more than 24 are told", x.where(0), NO);
        Due.row(x, 0, 2, -1);
        due.is("where below 0 is told", x.where(0), 0);
    }

    private static void promise28Laws() {
        due.by("promise 28: TEXTS (bits), were they THE LAW, by which that would be -1");
        RugIsJurisdiction x = new RugIsJurisdiction();
        x.spread(0, 0);
        Due.row(x, 0, 0);
        for (int n = 1; n <= 6; n++) {
            due.is("laws of " + n, x.laws(0, 0), (1 << n) - 1);
            Due.text(x, "fines " + n % 3 + " ; admits 1 ; sleeps hour < 2 ;");
        }
        for (int law = 0; law < 6; law++) {
            x.force(law);
            Due.row(x, 0, 0, 0, 0, 1);
            due.is("as texts 1, 4", x.laws(0, 0), 18);
            Due.row(x, 0, 0, 0, 0, 2);
            due.is("as texts 2, 5", x.laws(0, 0), 36);
            Due.row(x, 0, 0, 0, 0, 0);
            due.is("as texts 0, 3", x.laws(0, 0), 9);
            Due.row(x, 0, 0, 1);
            due.is("as none", x.laws(0, 0), 0);
            Due.row(x, 0, 0, 0, 0, 0, 0, 0, 0);
            due.is("where none rules, as all", x.laws(0, 35), 63);
            due.is("count(3)", x.count(3), law);
        }
    }

    private static void promise29Lengths() {
        due.by("promise 29: A SHEET truly becomes what a step would be FINED at HOURS 0 .. n less 1 (n 0 .. 24; shorts): n");
        for (int s = 0; s < 4; s++) {
            for (int n : new int[] {0, 1, 2, 23, 24}) {
                for (int was = -1; was < 3; was++) {
                    RugIsJurisdiction x = Due.under("fines 99 ; admits 1 ; sleeps 0 ;");
                    x.spread(39, 3535);
                    x.sheet(s, was, 40);
                    due.is("film(" + s + ", 35, " + n + ")", x.film(s, 35, n), n);
                    due.is("its size", Seen.size(x, s), n);
                    due.is("its sort", Seen.sort(x, s), 1);
                    due.is("judge", x.judge(s, 35), -1);
                    due.is("judge elsewhere", x.judge(s, 34), n == 0 ? -1 : 0);
                }
            }
        }
    }

    private static void promise29AtTheHours() {
        due.by("promise 29: at HOURS 0 .. n less 1");
        RugIsJurisdiction x = Due.under("fines 4 * hour + 8 ; admits 1 ; sleeps hour = 9 ;");
        x.spread(32, 35);
        x.strikes(17);
        due.is("film(0, 5, 24)", x.film(0, 5, 24), 24);
        int[] want = new int[24];
        for (int h = 0; h < 24; h++) {
            want[h] = h == 9 ? 0 : 2 * (Math.min(99, 4 * h + 8) + 4);
        }
        Due.row(x, 1, 2, want);
        due.is("judge of the same", x.judge(1, 5), -1);
        due.is("judge", x.judge(0, 5), -1);
        for (int h = 0; h < 24; h++) {
            x.strikes(h);
            due.is("over(5, 1) at " + h, x.over(5, 1), want[h]);
        }
        due.is("the others stay missing", Seen.size(x, 2), -11);
    }

    private static void promise29Refusals() {
        due.by("promise 29: BAD: SHEET (ahead of -5, -7)");
        for (int s : NO_SHEETS) {
            due.changesNothing("film(" + s + ", 0, 1)", Due::rich, x -> x.film(s, 0, 1), BAD);
            due.changesNothing("film(" + s + ", 36, 1)", Due::rich, x -> x.film(s, 36, 1), BAD);
            due.changesNothing("film(" + s + ", 0, 25)", Due::rich, x -> x.film(s, 0, 25), BAD);
        }
        due.by("promise 29: -5: no such CELL (ahead of -7)");
        for (int c : NO_CELLS) {
            for (int s = 0; s < 4; s++) {
                int to = s;
                due.changesNothing("film(" + s + ", " + c + ", 1)", Due::rich, x -> x.film(to, c, 1), -5);
                due.changesNothing("film(" + s + ", " + c + ", 25)", Due::rich, x -> x.film(to, c, 25), -5);
            }
        }
        due.by("promise 29: -7: n");
        for (int n : new int[] {LEAST, -1, 25, 40, 41, MOST}) {
            for (int s = 0; s < 4; s++) {
                int to = s;
                due.changesNothing("film(" + s + ", 35, " + n + ")", Due::rich, x -> x.film(to, 35, n), -7);
            }
        }
    }

    private static void whatIsAskedChangesNothing() {
        due.by("What is asked changes nothing");
        due.changesNothing("judge(1, 7)", Due::rich, x -> x.judge(1, 7), -1);
        due.changesNothing("judge(1, 0)", Due::rich, x -> x.judge(1, 0), 3);
        due.changesNothing("kinds(1, 7, 0, 0)", Due::rich, x -> x.kinds(1, 7, 0, 0), 1);
        due.changesNothing("kinds(1, 7, 0, 1)", Due::rich, x -> x.kinds(1, 7, 0, 1), 1023);
        due.changesNothing("kinds(1, 7, 3, 0)", Due::rich, x -> x.kinds(1, 7, 3, 0), 63);
        due.changesNothing("kinds(1, 7, 3, 1)", Due::rich, x -> x.kinds(1, 7, 3, 1), 1023);
        due.changesNothing("crowds(1, 7, 0, 0)", Due::rich, x -> x.crowds(1, 7, 0, 0), 1);
        due.changesNothing("crowds(1, 7, 0, 1)", Due::rich, x -> x.crowds(1, 7, 0, 1), 4);
        due.changesNothing("where(1)", Due::rich, x -> x.where(1), Due.bits(1, 7));
        due.changesNothing("laws(1, 7)", Due::rich, x -> x.laws(1, 7), 2);
    }
}
