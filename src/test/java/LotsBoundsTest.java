import java.math.BigInteger;

/** Promises 30 .. 33, sentence by sentence: the last value that is allowed, the first that is not, each refusal. */
public final class LotsBoundsTest {
    private static final Due due = new Due("lots, bounds");
    private static final int BAD = -2, STATE = -3;
    private static final long NO = RugIsJurisdiction.NO;
    private static final int LEAST = Integer.MIN_VALUE, MOST = Integer.MAX_VALUE;
    private static final int[] NO_SEEDS = {LEAST, -1, 100000, 100001, MOST};
    private static final int[] NO_CELL_STEPS = {LEAST, -100, -1, 3600, 3601, 10000, MOST};
    private static final BigInteger TIMES = BigInteger.valueOf(48271), MODULO = BigInteger.valueOf(2147483647);

    public static void main(String[] args) {
        promise30Lots();
        promise30OneStaysAtTheEdge();
        promise30FinedWhereOneIs();
        promise30LetOnOrNot();
        promise30Steps();
        promise30Bad();
        promise31Seeds();
        promise31Least();
        promise31LowestTerms();
        promise31No();
        promise32HowMany();
        promise33State();
        promise33WhatItKeeps();
        promise33WhatItDoesNotKeep();
        promise33RugsThatCameSince();
        promise33AgainAndAgain();
        due.end();
    }

    /** The lots of a seed, modulo 4, as the document tells them. */
    private static int[] lots(int seed, int many) {
        int[] lots = new int[many];
        BigInteger lot = BigInteger.valueOf(seed).add(BigInteger.ONE);
        for (int i = 0; i < many; i++) {
            lot = lot.multiply(TIMES).mod(MODULO);
            lots[i] = lot.mod(BigInteger.valueOf(4)).intValue();
        }
        return lots;
    }

    /** On which cells one is, from the first one on, also behind the last step. */
    private static int[] cells(int seed, int cell, int steps) {
        int[] lots = lots(seed, steps);
        int[] cells = new int[steps + 1];
        int column = cell % 6;
        int row = cell / 6;
        for (int i = 0; i < steps; i++) {
            cells[i] = 6 * row + column;
            switch (lots[i]) {
                case 0: column = Math.min(5, column + 1); break;
                case 1: column = Math.max(0, column - 1); break;
                case 2: row = Math.min(5, row + 1); break;
                default: row = Math.max(0, row - 1);
            }
        }
        cells[steps] = 6 * row + column;
        return cells;
    }

    private static void promise30Lots() {
        due.by("LOTS: the first is (SEED and 1) times 48271 modulo 2147483647, each further one the last times 48271");
        RugIsJurisdiction x = new RugIsJurisdiction();
        for (int seed : new int[] {0, 1, 2, 3, 44487, 44488, 44489, 99998, 99999}) {
            for (int steps : new int[] {0, 1, 2, 3, 10, 98, 99}) {
                for (int cell : new int[] {0, 14, 35}) {
                    int at = cells(seed, cell, steps)[steps];
                    due.is("drawn(" + seed + ", " + (100 * cell + steps) + ", 1)", x.drawn(seed, 100 * cell + steps, 1), at);
                }
            }
        }
        int[] known = {3, 2, 2, 1, 1};
        for (int i = 0; i < 5; i++) {
            due.is("lot " + i + " of seed 0", lots(0, 5)[i], known[i]);
        }
    }

    private static int seedOf(int first, int second) {
        for (int seed = 0; seed < 100000; seed++) {
            int[] lots = lots(seed, 2);
            if (lots[0] == first && lots[1] == second) {
                return seed;
            }
        }
        return -1;
    }

    private static void promise30OneStaysAtTheEdge() {
        due.by("LOT modulo 4: 0 a column further, 1 a column back, 2 a row further, 3 a row back; there is none: one stays");
        for (int lot = 0; lot < 4; lot++) {
            int seed = seedOf(lot, lot);
            RugIsJurisdiction x = new RugIsJurisdiction();
            for (int c = 0; c < 36; c++) {
                int[] further = {5 - c % 6, c % 6, 5 - c / 6, c / 6};
                int step = new int[] {1, -1, 6, -6}[lot];
                for (int steps = 0; steps <= 2; steps++) {
                    due.is("drawn(" + seed + ", " + (100 * c + steps) + ", 1)", x.drawn(seed, 100 * c + steps, 1),
                        c + step * Math.min(steps, further[lot]));
                }
            }
        }
    }

    private static void promise30FinedWhereOneIs() {
        due.by("step by step one is FINED where one is, then goes by a LOT");
        for (int seed : new int[] {0, 5, 777, 99999}) {
            for (int start : new int[] {0, 14, 35}) {
                RugIsJurisdiction x = Due.under("fines column + 6 * row ; admits 0 ; sleeps 0 ;");
                x.spread(0, 17);
                x.spread(0, 1835);
                for (int steps = 0; steps < 100; steps += 7) {
                    int[] cells = cells(seed, start, steps);
                    int fined = 0;
                    int borders = 0;
                    for (int i = 0; i < steps; i++) {
                        fined += cells[i];
                        borders += cells[i] < 18 == cells[i + 1] < 18 ? 0 : 1;
                    }
                    int cellSteps = 100 * start + steps;
                    due.is("drawn(" + seed + ", " + cellSteps + ", 0)", x.drawn(seed, cellSteps, 0), fined);
                    due.is("drawn(" + seed + ", " + cellSteps + ", 1)", x.drawn(seed, cellSteps, 1), cells[steps]);
                    due.is("drawn(" + seed + ", " + cellSteps + ", 2)", x.drawn(seed, cellSteps, 2), borders);
                }
            }
        }
    }

    private static void promise30LetOnOrNot() {
        due.by("then goes by a LOT, LET ON or not");
        RugIsJurisdiction x = new RugIsJurisdiction();
        x.spread(20, 35);
        due.is("drawn(0, 1499, 0), where none is let on", x.drawn(0, 1499, 0), 99);
        due.is("drawn(0, 1499, 1)", x.drawn(0, 1499, 1), cells(0, 14, 99)[99]);
        x.put(0, 0, 808);
        // The first lot of seed 0 is a row back: from 14, ruled by none, to 8, which admits none.
        due.is("drawn(0, 1401, 1)", x.drawn(0, 1401, 1), 8);
        due.is("drawn(0, 1401, 2)", x.drawn(0, 1401, 2), 1);
        due.is("drawn(0, 1402, 0)", x.drawn(0, 1402, 0), 1);
        due.is("drawn(0, 1402, 2)", x.drawn(0, 1402, 2), 2);
    }

    private static void promise30Steps() {
        due.by("cellSteps: 100 times the CELL, and steps, 0 .. 99");
        RugIsJurisdiction x = Due.under("fines 99 ; admits 1 ; sleeps 0 ;");
        x.spread(30, 35);
        due.is("drawn(0, 0, 0)", x.drawn(0, 0, 0), 0);
        due.is("drawn(0, 1, 0)", x.drawn(0, 1, 0), 198);
        due.is("drawn(0, 99, 0)", x.drawn(0, 99, 0), 99 * 198);
        due.is("drawn(0, 100, 0)", x.drawn(0, 100, 0), 0);
        due.is("drawn(0, 100, 1)", x.drawn(0, 100, 1), 1);
        due.is("drawn(0, 3500, 1)", x.drawn(0, 3500, 1), 35);
        due.is("drawn(0, 3599, 0)", x.drawn(0, 3599, 0), 99 * 198);
        due.is("drawn(99999, 3599, 2)", x.drawn(99999, 3599, 2), 0);
    }

    private static void promise30Bad() {
        due.by("promise 30: BAD");
        for (int what = 0; what < 3; what++) {
            int asked = what;
            for (int seed : NO_SEEDS) {
                due.changesNothing("drawn(" + seed + ", 0, " + what + ")", Due::rich, x -> x.drawn(seed, 0, asked), BAD);
            }
            for (int cellSteps : NO_CELL_STEPS) {
                due.changesNothing("drawn(0, " + cellSteps + ", " + what + ")", Due::rich,
                    x -> x.drawn(0, cellSteps, asked), BAD);
            }
        }
        for (int what : new int[] {LEAST, -1, 3, 4, MOST}) {
            due.changesNothing("drawn(0, 0, " + what + ")", Due::rich, x -> x.drawn(0, 0, what), BAD);
            due.changesNothing("drawn(99999, 3599, " + what + ")", Due::rich, x -> x.drawn(99999, 3599, what), BAD);
        }
        due.by("What is asked changes nothing");
        due.changesNothing("drawn(0, 1401, 1)", Due::rich, x -> x.drawn(0, 1401, 1), 8);
    }

    private static void oddsAre(RugIsJurisdiction x, int seed, int seeds, int cellSteps, int least, int many) {
        int divisor = BigInteger.valueOf(many).gcd(BigInteger.valueOf(seeds)).intValue();
        String call = "odds(" + seed + ", " + seeds + ", " + cellSteps + ", " + least + ", ";
        due.is(call + "0)", x.odds(seed, seeds, cellSteps, least, 0), many / divisor);
        due.is(call + "1)", x.odds(seed, seeds, cellSteps, least, 1), seeds / divisor);
    }

    /** Ants of 1 on cell 8 alone: one is fined as often as one is there. */
    private static RugIsJurisdiction onEight() {
        RugIsJurisdiction x = new RugIsJurisdiction();
        x.spread(51, 808);
        return x;
    }

    private static int timesOnEight(int seed, int cell, int steps) {
        int[] cells = cells(seed, cell, steps);
        int times = 0;
        for (int i = 0; i < steps; i++) {
            times += cells[i] == 8 ? 1 : 0;
        }
        return times;
    }

    private static void promise31Seeds() {
        due.by("promise 31: of so many (1 .. 40) seeds, SEED and each 1 more (they may pass 99999)");
        for (int seed : new int[] {0, 1, 99959, 99960, 99961, 99998, 99999}) {
            for (int seeds : new int[] {1, 2, 3, 39, 40}) {
                RugIsJurisdiction x = onEight();
                for (int least = 1; least < 4; least++) {
                    int many = 0;
                    for (int i = 0; i < seeds; i++) {
                        many += timesOnEight(seed + i, 14, 12) >= least ? 1 : 0;
                    }
                    oddsAre(x, seed, seeds, 1412, least, many);
                }
            }
        }
    }

    private static void promise31Least() {
        due.by("promise 31: they are FINED least (0 .. 99999) or more");
        RugIsJurisdiction x = Due.under("fines 99 ; admits 1 ; sleeps 0 ;");
        x.spread(39, 35);
        oddsAre(x, 0, 40, 0, 0, 40);
        oddsAre(x, 0, 40, 0, 1, 0);
        oddsAre(x, 7, 1, 1401, 198, 1);
        oddsAre(x, 7, 1, 1401, 199, 0);
        oddsAre(x, 7, 1, 1, 234, 1);
        oddsAre(x, 7, 1, 1, 235, 0);
        oddsAre(x, 99999, 40, 3599, 99 * 198, 40);
        oddsAre(x, 99999, 40, 3599, 99999, 0);
        oddsAre(x, 99999, 40, 3599, 99998, 0);
    }

    private static void promise31LowestTerms() {
        due.by("promise 31: part 0 above, 1 below the line, in lowest terms");
        RugIsJurisdiction x = new RugIsJurisdiction();
        due.is("none of 40: above", x.odds(0, 40, 0, 1, 0), 0);
        due.is("none of 40: below", x.odds(0, 40, 0, 1, 1), 1);
        due.is("all of 40: above", x.odds(0, 40, 0, 0, 0), 1);
        due.is("all of 40: below", x.odds(0, 40, 0, 0, 1), 1);
        RugIsJurisdiction y = onEight();
        for (int seeds = 1; seeds <= 40; seeds++) {
            int many = 0;
            for (int i = 0; i < seeds; i++) {
                many += timesOnEight(500 + i, 14, 2) > 0 ? 1 : 0;
            }
            oddsAre(y, 500, seeds, 1402, 1, many);
        }
    }

    private static void promise31No() {
        due.by("promise 31: NO: none such");
        for (int part = 0; part < 2; part++) {
            int p = part;
            for (int seed : NO_SEEDS) {
                due.changesNothing("odds, seed " + seed, Due::rich, x -> x.odds(seed, 1, 0, 0, p), NO);
            }
            for (int seeds : new int[] {LEAST, -1, 0, 41, 42, MOST}) {
                due.changesNothing("odds, seeds " + seeds, Due::rich, x -> x.odds(0, seeds, 0, 0, p), NO);
            }
            for (int cellSteps : NO_CELL_STEPS) {
                due.changesNothing("odds, cellSteps " + cellSteps, Due::rich, x -> x.odds(0, 1, cellSteps, 0, p), NO);
            }
            for (int least : new int[] {LEAST, -1, 100000, 100001, MOST}) {
                due.changesNothing("odds, least " + least, Due::rich, x -> x.odds(0, 1, 0, least, p), NO);
            }
        }
        for (int part : new int[] {LEAST, -1, 2, 3, MOST}) {
            due.changesNothing("odds, part " + part, Due::rich, x -> x.odds(0, 1, 0, 0, part), NO);
        }
        due.by("What is asked changes nothing");
        due.changesNothing("odds", Due::rich, x -> x.odds(99999, 40, 3599, 99999, 1), 1);
    }

    private static void promise32HowMany() {
        due.by("promise 32: AN IMAGE is kept: how many RUGS");
        RugIsJurisdiction x = new RugIsJurisdiction();
        for (int n = 0; n <= 6; n++) {
            due.is("image() of " + n, x.image(), n);
            due.is("image() of " + n + " again", x.image(), n);
            due.is("back()", x.back(), n);
            x.spread(11, 0);
        }
        due.is("count(0)", x.count(0), 6);
    }

    private static void promise33State() {
        due.by("promise 33: STATE: there is none");
        due.changesNothing("back() of a new one", RugIsJurisdiction::new, x -> x.back(), STATE);
        Due.Recipe used = () -> {
            RugIsJurisdiction x = new RugIsJurisdiction();
            x.spread(12, 714);
            x.put(0, 1, 9);
            x.strikes(3);
            Due.text(x, "fines 1 ; admits 1 ; sleeps 0 ;");
            x.force(1);
            return x;
        };
        due.changesNothing("back() of a used one", used, x -> x.back(), STATE);
        due.by("promise 33: an image of no RUGS is one");
        RugIsJurisdiction y = new RugIsJurisdiction();
        y.image();
        due.is("back()", y.back(), 0);
    }

    private static void promise33WhatItKeeps() {
        due.by("AN IMAGE keeps where all LIE, GUESTS, how many RUGS there are, HOUR, THE LAW");
        Due.Recipe kept = () -> {
            RugIsJurisdiction x = Due.rich();
            x.image();
            return x;
        };
        String want = Seen.of(kept.make());
        for (int change = 0; change < 7; change++) {
            RugIsJurisdiction x = kept.make();
            switch (change) {
                case 0: x.put(0, 0, 3535); break;
                case 1: x.put(3, 1, 99); break;
                case 2: x.spread(59, 35); break;
                case 3: x.strikes(0); break;
                case 4: x.force(0); break;
                case 5: x.visit(0); break;
                default:
                    x.spread(0, 0);
                    x.spread(0, 0);
                    for (int r = 0; r < 6; r++) {
                        x.put(r, 0, 101 * r);
                        x.put(r, 1, 50 + r);
                    }
                    x.strikes(23);
                    x.force(0);
            }
            due.is("back() from change " + change, x.back(), 4);
            due.is("all is as it was, from change " + change, Seen.of(x).equals(want) ? 1 : 0, 1);
        }
    }

    private static void promise33WhatItDoesNotKeep() {
        due.by("promise 33: All that it keeps is as in THE IMAGE (TEXTS, THE TAPE, SHEETS it does not keep)");
        RugIsJurisdiction x = new RugIsJurisdiction();
        x.image();
        Due.text(x, "fines 33 ; admits 1 ; sleeps 0 ;");
        x.force(1);
        Due.feed(x, "abc");
        Due.row(x, 2, 1, 0, 1, 2);
        due.is("back()", x.back(), 0);
        due.is("count(2)", x.count(2), 2);
        due.is("count(3)", x.count(3), 0);
        due.is("count(4)", x.count(4), 3);
        due.is("walk(2, 0)", x.walk(2, 0), -1);
        due.is("force(1)", x.force(1), 0);
        x.spread(0, 0);
        due.is("over(0, 1)", x.over(0, 1), 33);
        x.image();
        x.sheet(2, -1, 0);
        due.is("back()", x.back(), 1);
        due.is("a sheet does not come back", x.walk(2, 0), -11);
        due.is("the law", x.count(3), 1);
    }

    private static void promise33RugsThatCameSince() {
        due.by("promise 33: RUGS that came since are none: how many there are");
        for (int had = 0; had <= 6; had++) {
            RugIsJurisdiction x = new RugIsJurisdiction();
            for (int r = 0; r < had; r++) {
                x.spread(10 + r, 101 * r);
            }
            x.image();
            for (int r = had; r < 6; r++) {
                x.spread(50 + r, 35);
                x.put(r, 1, 70);
            }
            due.is("back() to " + had, x.back(), had);
            due.is("count(0)", x.count(0), had);
            due.is("told(" + had + ", 0)", x.told(had, 0), -5);
            due.is("put(" + had + ", 1, 0)", x.put(had, 1, 0), -5);
            due.is("rules(" + had + ")", x.rules(had), NO);
            due.is("taken(" + had + ", 0)", x.taken(had, 0), had == 6 ? -13 : -11);
            due.is("over(35, 3)", x.over(35, 3), 0);
            due.is("rules(-1)", x.rules(-1), (1L << 36) - (1L << had));
            if (had < 6) {
                due.is("a rug comes", x.spread(23, 3535), had);
                due.is("its guests", x.told(had, 1), 0);
                due.is("its kind", x.told(had, 2), 2);
                due.is("its more", x.told(had, 3), 3);
            }
        }
    }

    private static void promise33AgainAndAgain() {
        due.by("promise 33: as in THE IMAGE (the last one that was kept; it stays)");
        RugIsJurisdiction x = new RugIsJurisdiction();
        x.spread(0, 0);
        for (int hour = 0; hour < 24; hour++) {
            x.strikes(hour);
            x.put(0, 0, 101 * hour);
            x.put(0, 1, 4 * hour);
            due.is("image()", x.image(), 1);
            for (int time = 0; time < 2; time++) {
                x.strikes(12);
                x.put(0, 0, 35);
                x.put(0, 1, 99);
                due.is("back()", x.back(), 1);
                due.is("count(1)", x.count(1), hour);
                due.is("told(0, 0)", x.told(0, 0), 101 * hour);
                due.is("told(0, 1)", x.told(0, 1), 4 * hour);
            }
        }
    }
}
