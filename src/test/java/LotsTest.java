/** Promises 30 .. 33: walks by lots, images. */
public final class LotsTest {
    private static final Due due = new Due("lots");
    private static final long NO = RugIsJurisdiction.NO;

    public static void main(String[] args) {
        lots();
        drawnWrongly();
        odds();
        oddsWrongly();
        images();
        imagesOverLaterRugs();
        due.end();
    }

    private static void drawn(RugIsJurisdiction x, int seed, int cellSteps, int fined, int at, int borders) {
        due.is("drawn(" + seed + ", " + cellSteps + ", 0)", x.drawn(seed, cellSteps, 0), fined);
        due.is("drawn(" + seed + ", " + cellSteps + ", 1)", x.drawn(seed, cellSteps, 1), at);
        due.is("drawn(" + seed + ", " + cellSteps + ", 2)", x.drawn(seed, cellSteps, 2), borders);
    }

    /** Seed 0 draws 48271, 182605794, 1291394886, 1914720637, 2078669041: modulo 4 that is 3 2 2 1 1. */
    private static void lots() {
        RugIsJurisdiction x = new RugIsJurisdiction();
        drawn(x, 0, 0, 0, 0, 0);
        drawn(x, 0, 1400, 0, 14, 0);
        drawn(x, 0, 1401, 0, 8, 0);
        drawn(x, 0, 1402, 0, 14, 0);
        drawn(x, 0, 1403, 0, 20, 0);
        drawn(x, 0, 1404, 0, 19, 0);
        drawn(x, 0, 1405, 0, 18, 0);
        x.spread(0, 808);
        drawn(x, 0, 1400, 0, 14, 0);
        drawn(x, 0, 1401, 0, 8, 1);
        drawn(x, 0, 1402, 1, 14, 2);
        drawn(x, 0, 1405, 1, 18, 2);
        // One stays at the edge, and is fined there again; let on or not.
        x.put(0, 0, 202);
        x.put(0, 1, 30);
        drawn(x, 0, 201, 31, 2, 0);
        drawn(x, 0, 202, 62, 8, 1);
        drawn(x, 0, 3001, 0, 24, 0);
        drawn(x, 0, 3003, 0, 30, 0);
        drawn(x, 0, 3005, 0, 30, 0);
        x.put(0, 0, 35);
        drawn(x, 5, 1499, 99 * 31, x.drawn(5, 1499, 1), 0);
        due.is("seed 1", x.drawn(1, 1401, 1), 20);
        due.is("the last seed", x.drawn(99999, 1401, 1), step(14, 100000L * 48271 % 2147483647 % 4));
        due.is("nothing changes", x.told(0, 1), 30);
    }

    private static int step(int c, long lot) {
        return c + new int[] {1, -1, 6, -6}[(int) lot];
    }

    private static void drawnWrongly() {
        RugIsJurisdiction x = new RugIsJurisdiction();
        due.is("seed -1", x.drawn(-1, 0, 0), -2);
        due.is("seed 100000", x.drawn(100000, 0, 0), -2);
        due.is("cellSteps -1", x.drawn(0, -1, 0), -2);
        due.is("cellSteps 3600", x.drawn(0, 3600, 0), -2);
        due.is("cellSteps 3599", x.drawn(0, 3599, 0), 0);
        due.is("what 3", x.drawn(0, 0, 3), -2);
        due.is("what -1", x.drawn(0, 0, -1), -2);
    }

    private static void oddsAre(RugIsJurisdiction x, int seed, int seeds, int cellSteps, int least, long above, long below) {
        due.is("odds, above", x.odds(seed, seeds, cellSteps, least, 0), above);
        due.is("odds, below", x.odds(seed, seeds, cellSteps, least, 1), below);
    }

    private static void odds() {
        RugIsJurisdiction x = new RugIsJurisdiction();
        oddsAre(x, 0, 40, 1450, 0, 1, 1);
        oddsAre(x, 0, 40, 1450, 1, 0, 1);
        x.spread(57, 35);
        oddsAre(x, 0, 40, 1450, 350, 1, 1);
        oddsAre(x, 0, 40, 1450, 351, 0, 1);
        oddsAre(x, 99999, 40, 1450, 350, 1, 1);
        oddsAre(x, 0, 1, 1400, 0, 1, 1);
        oddsAre(x, 0, 1, 1400, 1, 0, 1);
        // Fined 1 as often as one stands on 8: seed by seed, the lots of the next ones, too.
        RugIsJurisdiction y = new RugIsJurisdiction();
        y.spread(50 + 1, 808);
        for (int seeds = 1; seeds <= 40; seeds++) {
            int seed = 99999 - seeds % 7;
            int many = 0;
            for (int i = 0; i < seeds; i++) {
                long lot = (long) (seed + i + 1) * 48271 % 2147483647;
                many += lot % 4 == 3 ? 1 : 0;
            }
            int divisor = 1;
            for (int d = 2; d <= seeds; d++) {
                divisor = many % d == 0 && seeds % d == 0 ? d : divisor;
            }
            oddsAre(y, seed, seeds, 1402, 1, many / divisor, many == 0 ? 1 : seeds / divisor);
        }
    }

    private static void oddsWrongly() {
        RugIsJurisdiction x = new RugIsJurisdiction();
        due.is("seed -1", x.odds(-1, 1, 0, 0, 0), NO);
        due.is("seed 100000", x.odds(100000, 1, 0, 0, 0), NO);
        due.is("seeds 0", x.odds(0, 0, 0, 0, 0), NO);
        due.is("seeds 41", x.odds(0, 41, 0, 0, 0), NO);
        due.is("cellSteps -1", x.odds(0, 1, -1, 0, 0), NO);
        due.is("cellSteps 3600", x.odds(0, 1, 3600, 0, 0), NO);
        due.is("least -1", x.odds(0, 1, 0, -1, 0), NO);
        due.is("least 100000", x.odds(0, 1, 0, 100000, 0), NO);
        due.is("least 99999", x.odds(0, 1, 3599, 99999, 0), 0);
        due.is("part 2", x.odds(0, 1, 0, 0, 2), NO);
        due.is("part -1", x.odds(0, 1, 0, 0, -1), NO);
    }

    private static void images() {
        RugIsJurisdiction x = new RugIsJurisdiction();
        due.is("no image", x.back(), -3);
        x.spread(12, 7);
        x.spread(33, 2835);
        x.put(1, 1, 9);
        x.strikes(20);
        due.is("image", x.image(), 2);
        x.put(0, 0, 1421);
        x.put(0, 1, 50);
        x.put(1, 1, 51);
        x.strikes(3);
        x.force(Due.text(x, "fines 77 ; admits 1 ; sleeps 0 ;"));
        x.spread(50, 35);
        x.sheet(2, 1, 3);
        Due.feed(x, "ab");
        due.is("back", x.back(), 2);
        due.is("rugs", x.count(0), 2);
        due.is("lies", x.told(0, 0), 7);
        due.is("size", x.told(0, 4), 4);
        due.is("guests", x.told(0, 1), 0);
        due.is("guests", x.told(1, 1), 9);
        due.is("kind", x.told(1, 2), 3);
        due.is("more", x.told(1, 3), 3);
        due.is("hour", x.count(1), 20);
        due.is("law", x.count(3), 0);
        due.is("rules", x.rules(0), Due.bits(0, 1, 6, 7));
        due.is("fined", x.over(0, 1), 5);
        due.is("no rug 2", x.told(2, 0), -5);
        due.is("texts stay", x.count(2), 2);
        due.is("the tape stays", x.count(4), 2);
        due.is("sheets stay", x.cell(2, 2, 0), 1);
        x.force(1);
        x.image();
        x.force(0);
        x.back();
        due.is("the law is kept", x.count(3), 1);
        x.strikes(1);
        due.is("the image stays", x.back(), 2);
        due.is("hour", x.count(1), 20);
    }

    private static void imagesOverLaterRugs() {
        RugIsJurisdiction x = new RugIsJurisdiction();
        due.is("image of none", x.image(), 0);
        for (int r = 0; r < 6; r++) {
            x.spread(57, 35);
        }
        x.put(0, 1, 7);
        due.is("back to none", x.back(), 0);
        due.is("ruled by none", x.rules(-1), (1L << 36) - 1);
        due.is("a rug comes anew", x.spread(21, 3535), 0);
        due.is("without guests", x.told(0, 1), 0);
        due.is("of its kind", x.told(0, 2), 2);
        due.is("a later image", x.image(), 1);
        due.is("is the one", x.back(), 1);
        x.put(0, 1, 5);
        x.put(0, 0, 0);
        x.image();
        x.put(0, 1, 6);
        x.put(0, 0, 1);
        x.back();
        due.is("guests by the last image", x.told(0, 1), 5);
        due.is("lies by the last image", x.told(0, 0), 0);
    }
}
