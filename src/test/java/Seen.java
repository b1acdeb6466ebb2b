/** All that can be seen of an object from outside, as one text; the object is of no further use then. */
final class Seen {
    private final RugIsJurisdiction x;
    private final StringBuilder told = new StringBuilder();

    private Seen(RugIsJurisdiction x) {
        this.x = x;
    }

    static String of(RugIsJurisdiction x) {
        Seen seen = new Seen(x);
        seen.common();
        for (int s = 0; s < 4; s++) {
            seen.sheet(s);
        }
        // What can only be seen by changing it comes last.
        seen.note("text", x.text());
        seen.note("back", x.back());
        seen.rugs();
        return seen.told.toString();
    }

    private void note(String what, long answer) {
        told.append(what).append(' ').append(answer).append('\n');
    }

    private void common() {
        note("tape", x.count(4));
        rugs();
        for (int r = -1; r < 6; r++) {
            note("rules " + r, x.rules(r));
        }
        for (int c = 0; c < 36; c++) {
            note("fined on " + c, x.over(c, 1));
            note("let on " + c, x.over(c, 2));
        }
        for (int c = 0; c < 36; c += 7) {
            note("lie on " + c, x.over(c, 3));
        }
    }

    private void rugs() {
        for (int what = 0; what < 4; what++) {
            note("count " + what, x.count(what));
        }
        for (int r = 0; r < x.count(0); r++) {
            for (int what = 0; what < 7; what++) {
                note("rug " + r + " " + what, x.told(r, what));
            }
        }
    }

    private void sheet(int s) {
        note("size of " + s, size(x, s));
        note("sort of " + s, sort(x, s));
        for (int what = 0; what < 4; what++) {
            note("walk " + s + " " + what, x.walk(s, what));
        }
        note("judge " + s, x.judge(s, 7));
        note("where " + s, x.where(s));
    }

    /** How many numbers a sheet has, by where none of them can be copied to; -11 if it is missing. */
    static int size(RugIsJurisdiction x, int s) {
        int n = 0;
        int step = 64;
        while (step > 0) {
            int answer = x.copy(s, n + step, s, n + step, 0);
            if (answer == -11) {
                return -11;
            }
            n += answer == 0 ? step : 0;
            step /= 2;
        }
        return n;
    }

    /** The sort of a sheet, by which none of its rugs can be asked for; -1 if it is missing. */
    static int sort(RugIsJurisdiction x, int s) {
        for (int sort = 0; sort < 3; sort++) {
            if (x.rugsBy(s, sort, 0, 0) == 0) {
                return sort;
            }
        }
        return -1;
    }
}
