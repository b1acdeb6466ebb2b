/** Promises 1 .. 10, sentence by sentence: the last value that is allowed, the first that is not, each refusal. */
public final class CommonBoundsTest {
    private static final Due due = new Due("common, bounds");
    private static final int BAD = -2, FULL = -4;
    private static final int LEAST = Integer.MIN_VALUE, MOST = Integer.MAX_VALUE;
    private static final String REST = " ; admits 1 ; sleeps 0 ;";

    public static void main(String[] args) {
        promise1NoRugs();
        promise1OneObjectKnowsNothingOfAnother();
        promise2CountsAtTheirEnds();
        promise2Bad();
        promise3Hours();
        promise3Bad();
        promise4OneToFive();
        promise4Bytes();
        promise4Full();
        promise4BadAheadOfFull();
        promise5Numbers();
        promise5PlacesOfFaults();
        promise5Full();
        promise6Texts();
        promise6Bad();
        promise7Parts();
        promise7Bad();
        promise8KindsAndMore();
        promise8Corners();
        promise8Full();
        promise9Corners();
        promise9Guests();
        promise9NoSuchRug();
        promise9WhatAndV();
        promise10AtItsEnds();
        promise10Refusals();
        due.end();
    }

    private static RugIsJurisdiction withRugs(int n) {
        RugIsJurisdiction x = new RugIsJurisdiction();
        for (int r = 0; r < n; r++) {
            x.spread(10 * r + r, 101 * 7 * (r % 5));
        }
        return x;
    }

    private static RugIsJurisdiction withTexts(int n) {
        RugIsJurisdiction x = new RugIsJurisdiction();
        for (int t = 1; t < n; t++) {
            Due.text(x, "fines " + 10 * t + REST);
        }
        return x;
    }

    private static RugIsJurisdiction withTape(int n) {
        RugIsJurisdiction x = new RugIsJurisdiction();
        Due.feed(x, " ".repeat(n));
        return x;
    }

    private static void promise1NoRugs() {
        due.by("promise 1: No RUGS");
        RugIsJurisdiction x = new RugIsJurisdiction();
        due.is("count(0)", x.count(0), 0);
        due.is("rules(0)", x.rules(0), RugIsJurisdiction.NO);
        due.is("rules(-1)", x.rules(-1), 68719476735L);
        due.is("borders(0)", x.borders(0), -5);
        due.is("taken(0, 0)", x.taken(0, 0), -11);
        due.by("12 at first");
        due.is("count(1)", x.count(1), 12);
        due.by("TEXT 0, at first, and THE LAW");
        due.is("count(2)", x.count(2), 1);
        due.is("count(3)", x.count(3), 0);
        due.by("or missing (as all are at first)");
        for (int s = 0; s < 4; s++) {
            due.is("size of " + s, Seen.size(x, s), -11);
        }
        due.by("the constants");
        due.is("NONE", RugIsJurisdiction.NONE, -1);
        due.is("BAD", RugIsJurisdiction.BAD, BAD);
        due.is("STATE", RugIsJurisdiction.STATE, -3);
        due.is("FULL", RugIsJurisdiction.FULL, FULL);
        due.is("NO", RugIsJurisdiction.NO, -(1L << 62));
    }

    private static void promise1OneObjectKnowsNothingOfAnother() {
        due.by("promise 1: A new object");
        RugIsJurisdiction first = new RugIsJurisdiction();
        String fresh = Seen.of(first);
        RugIsJurisdiction other = Due.rich();
        other.image();
        due.is("a new one beside a used one", Seen.of(new RugIsJurisdiction()).equals(fresh) ? 1 : 0, 1);
    }

    private static void promise2CountsAtTheirEnds() {
        due.by("promise 2: 0 RUGS, 1 HOUR, 2 TEXTS, 3 THE LAW, 4 bytes of THE TAPE");
        for (int n = 0; n <= 6; n++) {
            due.is("count(0) of " + n, withRugs(n).count(0), n);
        }
        for (int n = 1; n <= 6; n++) {
            RugIsJurisdiction x = withTexts(n);
            due.is("count(2) of " + n, x.count(2), n);
            x.force(n - 1);
            due.is("count(3) of " + (n - 1), x.count(3), n - 1);
        }
        for (int n : new int[] {0, 1, 159, 160}) {
            due.is("count(4) of " + n, withTape(n).count(4), n);
        }
        RugIsJurisdiction x = new RugIsJurisdiction();
        for (int h = 0; h < 24; h++) {
            x.strikes(h);
            due.is("count(1) at " + h, x.count(1), h);
        }
    }

    private static void promise2Bad() {
        due.by("promise 2: BAD");
        for (int what : new int[] {LEAST, -2, -1, 5, 6, MOST}) {
            due.changesNothing("count(" + what + ")", Due::rich, x -> x.count(what), BAD);
        }
        for (int what = 0; what < 5; what++) {
            int asked = what;
            int want = new int[] {4, 17, 2, 1, 2}[what];
            due.changesNothing("count(" + what + ")", Due::rich, x -> x.count(asked), want);
        }
    }

    private static void promise3Hours() {
        due.by("promise 3: HOUR becomes h: which it was");
        RugIsJurisdiction x = new RugIsJurisdiction();
        int was = 12;
        for (int h : new int[] {0, 0, 23, 1, 22, 12, 12}) {
            due.is("strikes(" + h + ")", x.strikes(h), was);
            due.is("count(1)", x.count(1), h);
            was = h;
        }
    }

    private static void promise3Bad() {
        due.by("promise 3: BAD");
        for (int h : new int[] {LEAST, -24, -1, 24, 25, MOST}) {
            due.changesNothing("strikes(" + h + ")", Due::rich, x -> x.strikes(h), BAD);
        }
    }

    private static void promise4OneToFive() {
        due.by("promise 4: The first n (1 .. 5) of five bytes come behind THE TAPE's, one by one");
        String text = "fines 7" + REST;
        for (int n = 1; n <= 5; n++) {
            RugIsJurisdiction x = new RugIsJurisdiction();
            x.spread(0, 0);
            int fed = 0;
            while (fed < text.length()) {
                int[] five = {'!', '!', '!', '!', '!'};
                int now = Math.min(n, text.length() - fed);
                for (int i = 0; i < now; i++) {
                    five[i] = text.charAt(fed + i);
                }
                fed += now;
                due.is("feed " + n + " by " + n, x.feed(now, five[0], five[1], five[2], five[3], five[4]), fed);
            }
            due.is("text()", x.text(), 1);
            x.force(1);
            due.is("over(0, 1)", x.over(0, 1), 7);
        }
        due.by("promise 4: BAD: n");
        for (int n : new int[] {LEAST, -5, -1, 0, 6, 7, MOST}) {
            due.changesNothing("feed n " + n, Due::rich, x -> x.feed(n, 32, 32, 32, 32, 32), BAD);
        }
    }

    private static int feed(RugIsJurisdiction x, int n, int... five) {
        return x.feed(n, five[0], five[1], five[2], five[3], five[4]);
    }

    private static void promise4Bytes() {
        for (int place = 0; place < 5; place++) {
            for (int n = 1; n <= 5; n++) {
                for (int v : new int[] {LEAST, -1, 256, MOST}) {
                    due.by("promise 4: BAD: any of the five");
                    int[] five = {32, 32, 32, 32, 32};
                    five[place] = v;
                    int many = n;
                    due.changesNothing("feed " + n + ", byte " + place + " " + v, Due::rich, x -> feed(x, many, five),
                        BAD);
                }
                for (int v : new int[] {0, 255}) {
                    due.by("promise 4: bytes (0 .. 255 each)");
                    int[] five = {32, 32, 32, 32, 32};
                    five[place] = v;
                    due.is("feed " + n + ", byte " + place + " " + v, feed(new RugIsJurisdiction(), n, five), n);
                }
            }
        }
    }

    private static void promise4Full() {
        for (int n = 1; n <= 5; n++) {
            int many = n;
            for (int room = 0; room <= 5; room++) {
                int had = 160 - room;
                if (n <= room) {
                    due.by("promise 4: how many it has");
                    due.is("feed " + n + " on " + had, withTape(had).feed(n, 32, 32, 32, 32, 32), had + n);
                } else {
                    due.by("promise 4: FULL: they have not all room (none comes)");
                    due.changesNothing("feed " + n + " on " + had, () -> withTape(had),
                        x -> x.feed(many, 'x', 'x', 'x', 'x', 'x'), FULL);
                }
            }
        }
    }

    private static void promise4BadAheadOfFull() {
        due.by("REFUSALS, of several the first one told: promise 4 BAD ahead of FULL");
        for (int n : new int[] {0, 6}) {
            due.changesNothing("feed " + n, () -> withTape(160), x -> x.feed(n, 32, 32, 32, 32, 32), BAD);
        }
        for (int place = 0; place < 5; place++) {
            int[] five = {32, 32, 32, 32, 32};
            five[place] = 256;
            due.changesNothing("feed a wrong byte " + place, () -> withTape(160), x -> feed(x, 1, five), BAD);
            five[place] = -1;
            due.changesNothing("feed a wrong byte " + place, () -> withTape(156), x -> feed(x, 5, five), BAD);
        }
    }

    private static void promise5Numbers() {
        due.by("promise 5: THE TAPE, which is empty then, is a TEXT: its number");
        RugIsJurisdiction x = new RugIsJurisdiction();
        x.spread(0, 0);
        for (int t = 1; t < 6; t++) {
            due.is("text()", Due.text(x, "fines " + 10 * t + REST), t);
            due.is("count(4)", x.count(4), 0);
            due.is("count(2)", x.count(2), t + 1);
            due.is("count(3)", x.count(3), 0);
        }
        for (int t = 0; t < 6; t++) {
            x.force(t);
            due.is("over(0, 1) by text " + t, x.over(0, 1), Math.max(1, 10 * t));
        }
        due.by("promise 5: THE TAPE is empty then (by a FAULT, too)");
        RugIsJurisdiction y = Due.rich();
        due.is("text()", y.text(), -100);
        due.is("count(4)", y.count(4), 0);
        due.is("count(2)", y.count(2), 2);
        due.is("count(3)", y.count(3), 1);
        due.is("the next text is the third", Due.text(y, "fines 1" + REST), 2);
    }

    private static void promise5PlacesOfFaults() {
        due.by("promise 5: -100 less the place of its FAULT");
        due.is("of nothing", withTape(0).text(), -100);
        due.is("of one blank", withTape(1).text(), -101);
        due.is("of 159 blanks", withTape(159).text(), -259);
        due.is("of 160 blanks", withTape(160).text(), -260);
        RugIsJurisdiction x = withTape(159);
        Due.feed(x, "!");
        due.is("of the last byte", x.text(), -259);
    }

    private static void promise5Full() {
        due.by("promise 5: FULL (ahead of the FAULT; then THE TAPE stays)");
        String[] tapes = {"", " ", "fines", "fines 1" + REST, "fines 1" + " ".repeat(153), ";".repeat(160)};
        for (String tape : tapes) {
            due.changesNothing("text() of \"" + tape + "\"", () -> {
                RugIsJurisdiction x = withTexts(6);
                Due.feed(x, tape);
                return x;
            }, x -> x.text(), FULL);
        }
        due.is("a fifth further text", Due.text(withTexts(5), "fines 1" + REST), 5);
    }

    private static void promise6Texts() {
        due.by("promise 6: A TEXT is THE LAW: which was");
        RugIsJurisdiction x = withTexts(6);
        x.spread(0, 0);
        int was = 0;
        for (int t : new int[] {5, 5, 0, 0, 4, 1, 3, 2}) {
            due.is("force(" + t + ")", x.force(t), was);
            due.is("count(3)", x.count(3), t);
            due.is("over(0, 1)", x.over(0, 1), Math.max(1, 10 * t));
            was = t;
        }
    }

    private static void promise6Bad() {
        due.by("promise 6: BAD");
        for (int n = 1; n <= 6; n++) {
            int texts = n;
            for (int t : new int[] {LEAST, -1, n, 6, MOST}) {
                due.changesNothing("force(" + t + ") of " + n, () -> withTexts(texts), x -> x.force(t), BAD);
            }
            due.is("force(" + (n - 1) + ") of " + n, withTexts(n).force(n - 1), 0);
        }
    }

    private static void promise7Parts() {
        due.by("promise 7: What part 0 fines, 1 admits, 2 sleeps says (1, 0 of these two) of a RUG and a CELL");
        RugIsJurisdiction x = Due.under("fines column * row + guests ; admits 35 < column + 6 * row + more ; sleeps 7 ;");
        x.spread(1, 0);
        x.spread(50, 3535);
        x.put(0, 1, 3);
        due.is("asks(0, 0, 0)", x.asks(0, 0, 0), 3);
        due.is("asks(0, 0, 35)", x.asks(0, 0, 35), 28);
        due.is("asks(0, 1, 35)", x.asks(0, 1, 35), 25);
        due.is("asks(1, 0, 34)", x.asks(1, 0, 34), 0);
        due.is("asks(1, 0, 35)", x.asks(1, 0, 35), 1);
        due.is("asks(1, 1, 35)", x.asks(1, 1, 35), 0);
        due.is("asks(2, 0, 0)", x.asks(2, 0, 0), 1);
        due.is("asks(2, 1, 35), of one that never sleeps", x.asks(2, 1, 35), 1);
    }

    private static void promise7Bad() {
        due.by("promise 7: BAD");
        int[][] wrong = {
            {-1, 0, 0}, {3, 0, 0}, {LEAST, 0, 0}, {MOST, 0, 0}, {0, -1, 0}, {0, 4, 0}, {0, LEAST, 0}, {0, MOST, 0},
            {0, 0, -1}, {0, 0, 36}, {0, 0, LEAST}, {0, 0, MOST}, {1, 4, 0}, {2, 4, 0}, {2, 0, 36}, {2, 0, -1}
        };
        for (int[] w : wrong) {
            due.changesNothing("asks(" + w[0] + ", " + w[1] + ", " + w[2] + ")", Due::rich,
                x -> x.asks(w[0], w[1], w[2]), BAD);
        }
        due.changesNothing("asks(0, 3, 35)", Due::rich, x -> x.asks(0, 3, 35), 7);
        due.is("asks(0, 0, 0) without rugs", withRugs(0).asks(0, 0, 0), BAD);
        due.is("asks(0, 5, 0) of six", withRugs(6).asks(0, 5, 0), 1);
        due.is("asks(0, 6, 0) of six", withRugs(6).asks(0, 6, 0), BAD);
    }

    private static void promise8KindsAndMore() {
        due.by("promise 8: kindMore: 10 times KIND, and MORE");
        for (int kindMore = 0; kindMore < 60; kindMore++) {
            RugIsJurisdiction x = new RugIsJurisdiction();
            due.is("spread(" + kindMore + ", 0)", x.spread(kindMore, 0), 0);
            due.is("told(0, 2)", x.told(0, 2), kindMore / 10);
            due.is("told(0, 3)", x.told(0, 3), kindMore % 10);
            due.is("told(0, 1), GUESTS 0 as one comes", x.told(0, 1), 0);
        }
        due.by("promise 8: BAD");
        for (int kindMore : new int[] {LEAST, -10, -1, 60, 61, 100, MOST}) {
            due.changesNothing("spread(" + kindMore + ", 0)", Due::rich, x -> x.spread(kindMore, 0), BAD);
        }
    }

    private static boolean areCorners(int one, int other) {
        boolean columns = other % 6 >= one % 6;
        boolean rows = other / 6 >= one / 6;
        return one < 36 && other < 36 && columns && rows;
    }

    private static void promise8Corners() {
        due.by("corners: 100 times the one, and the other; the other's COLUMN and ROW no less than the one's");
        for (int one = 0; one < 40; one++) {
            for (int other = 0; other < 100; other++) {
                int corners = 100 * one + other;
                RugIsJurisdiction x = new RugIsJurisdiction();
                boolean good = areCorners(one, other);
                due.is("spread(0, " + corners + ")", x.spread(0, corners), good ? 0 : BAD);
                due.is("count(0)", x.count(0), good ? 1 : 0);
                due.is("told(0, 0)", x.told(0, 0), good ? corners : -5);
            }
        }
        due.by("promise 8: BAD");
        int[] wrong = {LEAST, -3535, -100, -99, -65, -1, 36, 99, 106, 601, 1318, 1813, 3534, 3536, 3600, 10000, MOST};
        for (int corners : wrong) {
            due.changesNothing("spread(0, " + corners + ")", Due::rich, x -> x.spread(0, corners), BAD);
        }
    }

    private static void promise8Full() {
        due.by("promise 8: A RUG: its number");
        RugIsJurisdiction x = new RugIsJurisdiction();
        for (int r = 0; r < 6; r++) {
            due.is("spread", x.spread(59, 3535), r);
        }
        due.by("promise 8: FULL");
        due.changesNothing("a seventh", () -> withRugs(6), y -> y.spread(0, 0), FULL);
        due.changesNothing("a seventh", () -> withRugs(6), y -> y.spread(59, 3535), FULL);
        due.is("a sixth", withRugs(5).spread(0, 0), 5);
        due.by("REFUSALS, of several the first one told: promise 8 BAD ahead of FULL");
        due.changesNothing("spread(60, 0)", () -> withRugs(6), y -> y.spread(60, 0), BAD);
        due.changesNothing("spread(-1, 0)", () -> withRugs(6), y -> y.spread(-1, 0), BAD);
        due.changesNothing("spread(0, 36)", () -> withRugs(6), y -> y.spread(0, 36), BAD);
        due.changesNothing("spread(0, -1)", () -> withRugs(6), y -> y.spread(0, -1), BAD);
    }

    private static void promise9Corners() {
        due.by("promise 9: Where it LIES (what 0; corners) becomes v: what it was");
        for (int one = 0; one < 36; one++) {
            RugIsJurisdiction x = new RugIsJurisdiction();
            x.spread(18, 1428);
            int was = 1428;
            for (int other = 0; other < 40; other++) {
                int v = 100 * one + other;
                boolean good = areCorners(one, other);
                due.is("put(0, 0, " + v + ")", x.put(0, 0, v), good ? was : -7);
                was = good ? v : was;
                due.is("told(0, 0)", x.told(0, 0), was);
            }
        }
        RugIsJurisdiction y = withRugs(6);
        y.put(5, 1, 99);
        due.is("put(5, 0, 3535)", y.put(5, 0, 3535), 0);
        due.is("its guests stay", y.told(5, 1), 99);
        due.is("its size", y.told(5, 4), 1);
        due.is("the others stay", y.told(4, 0), 2828);
    }

    private static void promise9Guests() {
        due.by("promise 9: GUESTS (1) becomes v: what it was");
        RugIsJurisdiction x = withRugs(2);
        int was = 0;
        for (int v : new int[] {0, 99, 99, 1, 98, 0}) {
            due.is("put(1, 1, " + v + ")", x.put(1, 1, v), was);
            due.is("told(1, 1)", x.told(1, 1), v);
            due.is("told(0, 1)", x.told(0, 1), 0);
            was = v;
        }
    }

    private static void promise9NoSuchRug() {
        due.by("promise 9: -5: no such RUG");
        for (int r : new int[] {LEAST, -1, 4, 5, 6, MOST}) {
            due.changesNothing("put(" + r + ", 0, 0)", Due::rich, x -> x.put(r, 0, 0), -5);
            due.changesNothing("put(" + r + ", 1, 0)", Due::rich, x -> x.put(r, 1, 0), -5);
            due.changesNothing("put(" + r + ", 2, 0), ahead of what", Due::rich, x -> x.put(r, 2, 0), -5);
            due.changesNothing("put(" + r + ", 1, 100), ahead of v", Due::rich, x -> x.put(r, 1, 100), -5);
        }
        due.is("put(5, 1, 1) of six", withRugs(6).put(5, 1, 1), 0);
        due.is("put(6, 1, 1) of six", withRugs(6).put(6, 1, 1), -5);
        due.is("put(0, 1, 1) of none", withRugs(0).put(0, 1, 1), -5);
    }

    private static void promise9WhatAndV() {
        due.by("promise 9: -7: what, v");
        for (int what : new int[] {LEAST, -1, 2, 3, MOST}) {
            for (int v : new int[] {0, 7}) {
                due.changesNothing("put(3, " + what + ", " + v + ")", Due::rich, x -> x.put(3, what, v), -7);
            }
        }
        for (int v : new int[] {LEAST, -1, 100, 101, 3535, MOST}) {
            due.changesNothing("put(3, 1, " + v + ")", Due::rich, x -> x.put(3, 1, v), -7);
        }
        for (int v : new int[] {LEAST, -100, -1, 36, 99, 106, 601, 3534, 3536, 3600, MOST}) {
            due.changesNothing("put(3, 0, " + v + ")", Due::rich, x -> x.put(3, 0, v), -7);
        }
    }

    private static void promise10AtItsEnds() {
        due.by("promise 10: 0 where it LIES, 1 GUESTS, 2 KIND, 3 MORE, 4 SIZE, 5 how many it RULES, 6 whether it SLEEPS");
        RugIsJurisdiction x = new RugIsJurisdiction();
        x.spread(0, 35);
        int[] least = {35, 0, 0, 0, 36, 36, 0};
        for (int what = 0; what < 7; what++) {
            due.is("told(0, " + what + ")", x.told(0, what), least[what]);
        }
        x.spread(59, 3535);
        x.put(1, 1, 99);
        int[] most = {3535, 99, 5, 9, 1, 1, 0};
        for (int what = 0; what < 7; what++) {
            due.is("told(1, " + what + ")", x.told(1, what), most[what]);
        }
        due.is("told(0, 5)", x.told(0, 5), 35);
        x.put(1, 0, 35);
        due.is("told(0, 5), all under another one", x.told(0, 5), 0);
        due.is("told(1, 5)", x.told(1, 5), 36);
        x.strikes(5);
        due.is("told(0, 6)", x.told(0, 6), 1);
        due.is("told(0, 5), asleep", x.told(0, 5), 0);
        x.put(1, 0, 0);
        due.is("told(0, 5), asleep and under none", x.told(0, 5), 0);
        x.strikes(6);
        due.is("told(0, 6)", x.told(0, 6), 0);
        due.is("told(0, 5)", x.told(0, 5), 35);
    }

    private static void promise10Refusals() {
        due.by("promise 10: -5: no such RUG");
        for (int r : new int[] {LEAST, -1, 4, 6, MOST}) {
            due.changesNothing("told(" + r + ", 0)", Due::rich, x -> x.told(r, 0), -5);
            due.changesNothing("told(" + r + ", 7), ahead of what", Due::rich, x -> x.told(r, 7), -5);
        }
        due.is("told(5, 2) of six", withRugs(6).told(5, 2), 5);
        due.is("told(6, 2) of six", withRugs(6).told(6, 2), -5);
        due.by("promise 10: -7: what");
        for (int what : new int[] {LEAST, -1, 7, 8, MOST}) {
            due.changesNothing("told(3, " + what + ")", Due::rich, x -> x.told(3, what), -7);
        }
        due.by("What is asked changes nothing");
        int[] want = {1421, 0, 3, 4, 4, 4, 0};
        for (int what = 0; what < 7; what++) {
            int asked = what;
            due.changesNothing("told(3, " + what + ")", Due::rich, x -> x.told(3, asked), want[what]);
        }
    }
}
