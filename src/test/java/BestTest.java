/** Promises 19 .. 23: what is best. */
public final class BestTest {
    private static final Due due = new Due("best");

    public static void main(String[] args) {
        places();
        placesBySleep();
        freest();
        folds();
        shares();
        means();
        due.end();
    }

    private static void place(RugIsJurisdiction x, int r, int corners, int many) {
        int was = x.told(r, 0);
        due.is("place(" + r + ", 0)", x.place(r, 0), corners);
        due.is("place(" + r + ", 1)", x.place(r, 1), many);
        due.is("it lies as it did", x.told(r, 0), was);
    }

    private static void places() {
        RugIsJurisdiction x = new RugIsJurisdiction();
        due.is("no rug first", x.place(0, 2), -5);
        x.spread(0, 2835);
        due.is("what 2", x.place(0, 2), -7);
        due.is("what -1", x.place(0, -1), -7);
        due.is("no rug", x.place(1, 0), -5);
        due.is("no rug", x.place(-1, 0), -5);
        place(x, 0, 7, 4);
        x.spread(50, 11);
        place(x, 0, 1219, 4);
        place(x, 1, 11, 12);
        x.put(1, 0, 29);
        place(x, 0, 2431, 2);
        x.put(0, 0, 107);
        place(x, 0, 2430, 1);
        x.put(0, 0, 102);
        place(x, 0, 3031, 2);
        x.spread(50, 3034);
        place(x, 0, 3435, 1);
        x.put(0, 0, 35);
        place(x, 0, 35, 1);
        x.put(1, 0, 35);
        place(x, 0, 35, 0);
        place(x, 2, 4, 5);
    }

    private static void placesBySleep() {
        RugIsJurisdiction x = Due.under("fines 1 ; admits 1 ; sleeps column < 2 or row < 1 ;");
        x.spread(0, 7);
        place(x, 0, 815, 4);
        x.put(0, 0, 14);
        place(x, 0, 822, 9);
        x.put(0, 0, 35);
        place(x, 0, 35, 0);
        due.is("asleep where it lies", x.told(0, 6), 1);
        RugIsJurisdiction y = Due.under("fines 1 ; admits 1 ; sleeps row < 5 or column < 5 ;");
        y.spread(0, 6);
        place(y, 0, 6, 0);
        y.put(0, 0, 1);
        place(y, 0, 1, 0);
        y.put(0, 0, 0);
        place(y, 0, 3535, 1);
        RugIsJurisdiction z = Due.under("fines 1 ; admits 1 ; sleeps row < 5 ;");
        z.spread(0, 6);
        place(z, 0, 6, 0);
    }

    private static void freestIs(RugIsJurisdiction x, int hour, int fined) {
        int was = x.count(1);
        due.is("freest(0)", x.freest(0), hour);
        due.is("freest(1)", x.freest(1), fined);
        due.is("the hour is as it was", x.count(1), was);
    }

    private static void freest() {
        RugIsJurisdiction x = new RugIsJurisdiction();
        freestIs(x, 0, 0);
        due.is("what 2", x.freest(2), -2);
        due.is("what -1", x.freest(-1), -2);
        x.spread(59, 0);
        freestIs(x, 0, 9);
        x.spread(0, 7);
        freestIs(x, 6, 4);
        x.strikes(3);
        freestIs(x, 6, 4);
        RugIsJurisdiction y = Due.under("fines 20 - hour ; admits 1 ; sleeps 0 ;");
        y.spread(0, 303);
        freestIs(y, 20, 0);
        y.force(Due.text(y, "fines 5 - (hour = 9) ; admits 1 ; sleeps 0 ;"));
        y.put(0, 0, 7);
        freestIs(y, 9, 16);
        y.force(Due.text(y, "fines 5 - (hour = 23) ; admits 1 ; sleeps 0 ;"));
        freestIs(y, 23, 16);
        y.force(Due.text(y, "fines 1 + hour ; admits 1 ; sleeps 0 ;"));
        freestIs(y, 0, 4);
        y.force(Due.text(y, "fines 5 - (hour = 1) ; admits 1 ; sleeps hour = 22 and column = 1 ;"));
        freestIs(y, 1, 16);
        RugIsJurisdiction z = Due.under("fines 5 ; admits 1 ; sleeps hour < 14 and 2 < hour ;");
        z.spread(20, 0);
        freestIs(z, 3, 0);
        z.force(Due.text(z, "fines 5 ; admits 1 ; sleeps 0 ;"));
        freestIs(z, 14, 0);
        z.force(Due.text(z, "fines 5 ; admits 1 ; sleeps hour = 0 ;"));
        freestIs(z, 0, 0);
    }

    private static void foldIs(RugIsJurisdiction x, int r, int fined) {
        due.is("fold(0)", x.fold(0), r);
        due.is("fold(1)", x.fold(1), fined);
    }

    private static void folds() {
        RugIsJurisdiction x = new RugIsJurisdiction();
        foldIs(x, -1, 0);
        due.is("what 2", x.fold(2), -2);
        due.is("what -1", x.fold(-1), -2);
        x.spread(59, 1);
        foldIs(x, 0, 0);
        x.spread(51, 1);
        foldIs(x, 0, 2);
        due.is("rugs are as they were", x.count(0), 2);
        due.is("they lie as they did", x.told(1, 0), 1);
        x.spread(58, 3435);
        foldIs(x, 2, 2);
        x.spread(58, 2829);
        foldIs(x, 2, 18);
        x.put(1, 0, 2);
        x.put(3, 0, 2);
        foldIs(x, 3, 19);
        x.put(2, 0, 2);
        foldIs(x, 0, 24);
        RugIsJurisdiction y = new RugIsJurisdiction();
        y.spread(0, 35);
        foldIs(y, 0, 0);
        y.spread(59, 0);
        foldIs(y, 0, 9);
        y.strikes(2);
        foldIs(y, 1, 0);
        y.strikes(12);
        y.put(0, 0, 1);
        foldIs(y, 1, 2);
    }

    private static void shareIs(RugIsJurisdiction x, int r, long above, long below) {
        due.is("share(" + r + ", 0)", x.share(r, 0), above);
        due.is("share(" + r + ", 1)", x.share(r, 1), below);
    }

    private static void shares() {
        RugIsJurisdiction x = new RugIsJurisdiction();
        due.is("no rug", x.share(0, 0), RugIsJurisdiction.NO);
        x.spread(0, 35);
        shareIs(x, 0, 1, 1);
        x.spread(0, 0);
        shareIs(x, 0, 35, 36);
        shareIs(x, 1, 1, 36);
        x.put(1, 0, 5);
        shareIs(x, 0, 5, 6);
        x.put(1, 0, 30);
        shareIs(x, 1, 1, 6);
        x.put(1, 0, 14);
        shareIs(x, 0, 3, 4);
        x.put(1, 0, 8);
        shareIs(x, 1, 1, 6);
        x.put(1, 0, 9);
        shareIs(x, 1, 2, 9);
        x.put(1, 0, 35);
        shareIs(x, 0, 0, 1);
        due.is("part 2", x.share(0, 2), RugIsJurisdiction.NO);
        due.is("part -1", x.share(0, -1), RugIsJurisdiction.NO);
        due.is("no rug", x.share(2, 0), RugIsJurisdiction.NO);
        due.is("no rug", x.share(-1, 0), RugIsJurisdiction.NO);
    }

    private static void meanIs(RugIsJurisdiction x, int r, long above, long below) {
        due.is("mean(" + r + ", 0)", x.mean(r, 0), above);
        due.is("mean(" + r + ", 1)", x.mean(r, 1), below);
    }

    private static void means() {
        RugIsJurisdiction x = Due.under("fines column ; admits 1 ; sleeps 0 ;");
        x.spread(0, 1);
        meanIs(x, 0, 1, 2);
        x.put(0, 0, 3);
        meanIs(x, 0, 3, 2);
        x.put(0, 0, 102);
        meanIs(x, 0, 3, 2);
        x.put(0, 0, 2);
        meanIs(x, 0, 1, 1);
        x.put(0, 0, 30);
        meanIs(x, 0, 0, 1);
        x.put(0, 0, 5);
        meanIs(x, 0, 5, 2);
        x.spread(59, 101);
        meanIs(x, 0, 14, 5);
        meanIs(x, 1, 9, 1);
        x.put(1, 0, 5);
        due.is("it rules none", x.mean(0, 0), RugIsJurisdiction.NO);
        due.is("it rules none", x.mean(0, 1), RugIsJurisdiction.NO);
        due.is("part 2", x.mean(1, 2), RugIsJurisdiction.NO);
        due.is("part -1", x.mean(1, -1), RugIsJurisdiction.NO);
        due.is("no rug", x.mean(2, 0), RugIsJurisdiction.NO);
        due.is("no rug", x.mean(-1, 0), RugIsJurisdiction.NO);
    }
}
