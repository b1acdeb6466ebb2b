/** Promises 19 .. 23, sentence by sentence: the last value that is allowed, the first that is not, each refusal. */
public final class BestBoundsTest {
    private static final Due due = new Due("best, bounds");
    private static final int BAD = -2;
    private static final long NO = RugIsJurisdiction.NO;
    private static final int LEAST = Integer.MIN_VALUE, MOST = Integer.MAX_VALUE;
    private static final String ALWAYS_FIVE = "fines 5 ; admits 1 ; sleeps 0 ;";

    public static void main(String[] args) {
        promise19AsWideAndDeep();
        promise19OfLikeOnes();
        promise19Refusals();
        promise20OfLikeOnes();
        promise20EachHour();
        promise20Bad();
        promise21WithoutRugs();
        promise21OfLikeOnes();
        promise21Bad();
        promise22LowestTerms();
        promise22No();
        promise23LowestTerms();
        promise23No();
        due.end();
    }

    private static void placeIs(RugIsJurisdiction x, int r, int corners, int many) {
        due.is("place(" + r + ", 0)", x.place(r, 0), corners);
        due.is("place(" + r + ", 1)", x.place(r, 1), many);
    }

    private static void promise19AsWideAndDeep() {
        due.by("promise 19: Where a RUG, as wide and as deep as it is, would RULE most CELLS");
        for (int wide = 1; wide <= 6; wide++) {
            for (int deep = 1; deep <= 6; deep++) {
                // It lies at the far end; the near end is the least cell of like ones.
                int far = 36 - wide - 6 * (deep - 1);
                int other = wide - 1 + 6 * (deep - 1);
                RugIsJurisdiction x = new RugIsJurisdiction();
                x.spread(0, 100 * far + 35);
                placeIs(x, 0, other, wide * deep);
                due.is("told(0, 0)", x.told(0, 0), 100 * far + 35);
            }
        }
        // Of one cell, the one that no later rug lies on: rows above, below, its row's columns ahead, behind.
        for (int c = 0; c < 36; c++) {
            RugIsJurisdiction x = new RugIsJurisdiction();
            x.spread(0, 0);
            int column = c % 6;
            int row = c / 6;
            if (row > 0) {
                x.spread(50, 5 + 6 * (row - 1));
            }
            if (row < 5) {
                x.spread(50, 600 * (row + 1) + 35);
            }
            if (column > 0) {
                x.spread(50, 600 * row + 6 * row + column - 1);
            }
            if (column < 5) {
                x.spread(50, 100 * (c + 1) + 6 * row + 5);
            }
            placeIs(x, 0, 101 * c, 1);
        }
    }

    private static void promise19OfLikeOnes() {
        due.by("promise 19: of like ones that from the least CELL");
        RugIsJurisdiction x = new RugIsJurisdiction();
        x.spread(0, 2835);
        placeIs(x, 0, 7, 4);
        x.spread(50, 0);
        placeIs(x, 0, 108, 4);
        x.put(1, 0, 5);
        placeIs(x, 0, 613, 4);
        x.put(1, 0, 35);
        placeIs(x, 0, 7, 0);
        placeIs(x, 1, 35, 36);
        x.put(0, 0, 35);
        placeIs(x, 0, 35, 0);
        RugIsJurisdiction asleep = new RugIsJurisdiction();
        asleep.spread(0, 2128);
        asleep.strikes(0);
        placeIs(asleep, 0, 7, 0);
        due.by("promise 19: would RULE (Of sleeps the CELL from which it LIES)");
        RugIsJurisdiction y = Due.under("fines 1 ; admits 1 ; sleeps column + 6 * row < 35 ;");
        y.spread(0, 0);
        placeIs(y, 0, 3535, 1);
        y.put(0, 0, 1);
        placeIs(y, 0, 1, 0);
        y.force(Due.text(y, "fines 1 ; admits 1 ; sleeps not (column = 4 and row = 0) ;"));
        placeIs(y, 0, 405, 2);
        due.by("promise 19: Where a RUG, as wide and as deep as it is (never past the edge, though it would be awake there)");
        RugIsJurisdiction z = Due.under("fines 1 ; admits 1 ; sleeps row < 5 ;");
        z.spread(0, 6);
        placeIs(z, 0, 6, 0);
        z.put(0, 0, 5);
        placeIs(z, 0, 3035, 6);
        z.force(Due.text(z, "fines 1 ; admits 1 ; sleeps column < 5 ;"));
        z.put(0, 0, 1);
        placeIs(z, 0, 1, 0);
        z.put(0, 0, 30);
        placeIs(z, 0, 535, 6);
    }

    private static void promise19Refusals() {
        due.by("promise 19: -5: no such RUG");
        for (int r : new int[] {LEAST, -1, 4, 6, MOST}) {
            due.changesNothing("place(" + r + ", 0)", Due::rich, x -> x.place(r, 0), -5);
            due.changesNothing("place(" + r + ", 1)", Due::rich, x -> x.place(r, 1), -5);
            due.changesNothing("place(" + r + ", 2), ahead of what", Due::rich, x -> x.place(r, 2), -5);
        }
        due.by("promise 19: -7: what");
        for (int what : new int[] {LEAST, -1, 2, 3, MOST}) {
            due.changesNothing("place(3, " + what + ")", Due::rich, x -> x.place(3, what), -7);
        }
        due.by("What is asked changes nothing");
        due.changesNothing("place(3, 0)", Due::rich, x -> x.place(3, 0), 7);
        due.changesNothing("place(3, 1)", Due::rich, x -> x.place(3, 1), 4);
        due.changesNothing("place(0, 0)", Due::rich, x -> x.place(0, 0), 7);
    }

    private static void freestIs(RugIsJurisdiction x, int hour, int fined) {
        due.is("freest(0)", x.freest(0), hour);
        due.is("freest(1)", x.freest(1), fined);
    }

    private static void promise20OfLikeOnes() {
        due.by("promise 20: of like ones the first");
        RugIsJurisdiction x = new RugIsJurisdiction();
        freestIs(x, 0, 0);
        x.spread(55, 35);
        freestIs(x, 0, 180);
        RugIsJurisdiction y = Due.under(ALWAYS_FIVE);
        y.spread(0, 35);
        freestIs(y, 0, 180);
        y.spread(59, 0);
        freestIs(y, 0, 184);
        y.force(0);
        // Under the first law all but the ants sleep from 0 to 5.
        freestIs(y, 0, 9);
        RugIsJurisdiction z = Due.under("fines 5 ; admits 1 ; sleeps 0 ;");
        z.spread(20, 35);
        freestIs(z, 14, 0);
        z.put(0, 0, 0);
        z.spread(49, 714);
        // The nurse sleeps at 14, 15; the league is awake then, but 0 on its fringe.
        freestIs(z, 14, 0);
        z.put(1, 0, 721);
        freestIs(z, 14, 2);
    }

    private static void promise20EachHour() {
        due.by("promise 20: The HOUR at which what a step on each of all CELLS is FINED, together, would be least");
        for (int h = 0; h < 24; h++) {
            RugIsJurisdiction x = Due.under("fines 5 - (hour = " + h + ") ; admits 1 ; sleeps 0 ;");
            x.spread(0, 35);
            freestIs(x, h, 144);
            x.strikes((h + 5) % 24);
            freestIs(x, h, 144);
            x.force(Due.text(x, "fines 5 ; admits 1 ; sleeps hour = " + h + " ;"));
            freestIs(x, h, 0);
            x.force(Due.text(x, "fines 5 + (hour < " + h + ") ; admits 1 ; sleeps 0 ;"));
            freestIs(x, h, 180);
        }
    }

    private static void promise20Bad() {
        due.by("promise 20: BAD");
        for (int what : new int[] {LEAST, -1, 2, 3, MOST}) {
            due.changesNothing("freest(" + what + ")", Due::rich, x -> x.freest(what), BAD);
        }
        due.by("What is asked changes nothing");
        due.changesNothing("freest(0)", Due::rich, x -> x.freest(0), 0);
        due.changesNothing("freest(1)", Due::rich, x -> x.freest(1), 6 * 7);
    }

    private static void foldIs(RugIsJurisdiction x, int r, int fined) {
        due.is("fold(0)", x.fold(0), r);
        due.is("fold(1)", x.fold(1), fined);
    }

    private static void promise21WithoutRugs() {
        due.by("promise 21: (what 0; -1: no RUGS); fold(): without RUGS what 1 is 0");
        RugIsJurisdiction x = new RugIsJurisdiction();
        foldIs(x, -1, 0);
        x.image();
        x.spread(0, 35);
        foldIs(x, 0, 0);
        x.back();
        foldIs(x, -1, 0);
    }

    private static void promise21OfLikeOnes() {
        due.by("promise 21: The RUG without which (LYING nowhere) that would be least now, of like ones the first");
        RugIsJurisdiction x = new RugIsJurisdiction();
        for (int r = 0; r < 6; r++) {
            x.spread(55, 101 * r);
        }
        foldIs(x, 0, 25);
        for (int r = 5; r > 0; r--) {
            x.put(r, 0, 101 * (6 + r));
            foldIs(x, 0, 25);
        }
        for (int dear = 0; dear < 6; dear++) {
            RugIsJurisdiction y = new RugIsJurisdiction();
            for (int r = 0; r < 6; r++) {
                y.spread(r == dear ? 56 : 55, 101 * r);
            }
            foldIs(y, dear, 25);
        }
        RugIsJurisdiction z = new RugIsJurisdiction();
        z.spread(59, 0);
        z.spread(51, 0);
        // Without the upper one the lower one rules.
        foldIs(z, 0, 1);
        z.spread(0, 35);
        foldIs(z, 2, 1);
        z.strikes(0);
        foldIs(z, 0, 1);
        due.by("promise 21: one asleep, one that rules nothing, too");
        RugIsJurisdiction asleep = new RugIsJurisdiction();
        asleep.spread(0, 35);
        asleep.spread(0, 0);
        asleep.strikes(5);
        foldIs(asleep, 0, 0);
    }

    private static void promise21Bad() {
        due.by("promise 21: BAD");
        for (int what : new int[] {LEAST, -1, 2, 3, MOST}) {
            due.changesNothing("fold(" + what + ")", Due::rich, x -> x.fold(what), BAD);
            due.is("fold(" + what + ") without rugs", new RugIsJurisdiction().fold(what), BAD);
        }
        due.by("What is asked changes nothing");
        due.changesNothing("fold(0)", Due::rich, x -> x.fold(0), 2);
    }

    private static void shareIs(RugIsJurisdiction x, int r, long above, long below) {
        due.is("share(" + r + ", 0)", x.share(r, 0), above);
        due.is("share(" + r + ", 1)", x.share(r, 1), below);
    }

    private static void promise22LowestTerms() {
        due.by("promise 22: How many CELLS a RUG RULES, of 36: part 0 above, 1 below the line, in lowest terms");
        // So many of 36 as one rug leaves to the one under it, in lowest terms.
        int[][] leaves = {
            {35, 0, 1}, {5, 5, 6}, {11, 2, 3}, {17, 1, 2}, {23, 1, 3}, {29, 1, 6}, {0, 35, 36}, {1, 17, 18}, {2, 11, 12},
            {3, 8, 9}, {4, 31, 36}, {7, 8, 9}, {14, 3, 4}, {21, 5, 9}, {28, 11, 36}, {34, 1, 6}, {28, 11, 36}, {27, 4, 9}
        };
        for (int[] l : leaves) {
            RugIsJurisdiction x = new RugIsJurisdiction();
            x.spread(0, 35);
            shareIs(x, 0, 1, 1);
            x.spread(0, l[0]);
            shareIs(x, 0, l[1], l[2]);
            x.strikes(5);
            shareIs(x, 0, 0, 1);
        }
    }

    private static void promise22No() {
        due.by("promise 22: NO: none such");
        for (int part = 0; part < 2; part++) {
            for (int r : new int[] {LEAST, -1, 4, 6, MOST}) {
                int asked = part;
                due.changesNothing("share(" + r + ", " + part + ")", Due::rich, x -> x.share(r, asked), NO);
            }
        }
        for (int part : new int[] {LEAST, -1, 2, 3, MOST}) {
            due.changesNothing("share(3, " + part + ")", Due::rich, x -> x.share(3, part), NO);
        }
        due.by("What is asked changes nothing");
        due.changesNothing("share(3, 0)", Due::rich, x -> x.share(3, 0), 1);
        due.changesNothing("share(3, 1)", Due::rich, x -> x.share(3, 1), 9);
    }

    private static void meanIs(RugIsJurisdiction x, int r, long above, long below) {
        due.is("mean(" + r + ", 0)", x.mean(r, 0), above);
        due.is("mean(" + r + ", 1)", x.mean(r, 1), below);
    }

    private static void promise23LowestTerms() {
        due.by("promise 23: FINED, together, by how many they are: part 0 above, 1 below the line, in lowest terms");
        RugIsJurisdiction x = Due.under("fines 99 * guests ; admits 1 ; sleeps 0 ;");
        x.spread(39, 35);
        x.put(0, 1, 1);
        // 20 cells of the fringe of 234 each, 16 of 198: 7848 by 36.
        meanIs(x, 0, 218, 1);
        x.put(0, 1, 0);
        // 20 of 36: 720 by 36.
        meanIs(x, 0, 20, 1);
        x.put(0, 0, 14);
        meanIs(x, 0, 32, 1);
        x.put(0, 0, 15);
        meanIs(x, 0, 30, 1);
        x.put(0, 0, 22);
        meanIs(x, 0, 126, 5);
        RugIsJurisdiction y = new RugIsJurisdiction();
        y.spread(50, 0);
        meanIs(y, 0, 0, 1);
        y.put(0, 0, 35);
        meanIs(y, 0, 0, 1);
        y.spread(10, 35);
        meanIs(y, 1, 1, 1);
        y.spread(50, 0);
        meanIs(y, 1, 1, 1);
        RugIsJurisdiction z = Due.under("fines column = 0 and row = 0 ; admits 1 ; sleeps 0 ;");
        z.spread(0, 35);
        meanIs(z, 0, 1, 36);
        z.force(Due.text(z, "fines column ; admits 1 ; sleeps 0 ;"));
        meanIs(z, 0, 5, 2);
    }

    private static void promise23No() {
        due.by("promise 23: NO: none such");
        for (int part = 0; part < 2; part++) {
            int asked = part;
            for (int r : new int[] {LEAST, -1, 4, 6, MOST}) {
                due.changesNothing("mean(" + r + ", " + part + ")", Due::rich, x -> x.mean(r, asked), NO);
            }
            due.by("promise 23: NO: it RULES none");
            due.changesNothing("mean(0, " + part + "), asleep", () -> {
                RugIsJurisdiction x = new RugIsJurisdiction();
                x.spread(0, 35);
                x.strikes(5);
                return x;
            }, x -> x.mean(0, asked), NO);
            due.changesNothing("mean(0, " + part + "), under another one", () -> {
                RugIsJurisdiction x = new RugIsJurisdiction();
                x.spread(0, 7);
                x.spread(0, 7);
                return x;
            }, x -> x.mean(0, asked), NO);
        }
        due.by("promise 23: NO: none such");
        for (int part : new int[] {LEAST, -1, 2, 3, MOST}) {
            due.changesNothing("mean(3, " + part + ")", Due::rich, x -> x.mean(3, part), NO);
        }
        due.by("What is asked changes nothing");
        due.changesNothing("mean(3, 0)", Due::rich, x -> x.mean(3, 0), 25);
        due.changesNothing("mean(3, 1)", Due::rich, x -> x.mean(3, 1), 1);
    }
}
