/** Promises 1 .. 10: the common, the law, rugs. */
public final class CommonTest {
    private static final Due due = new Due("common");
    private static final String REST = " ; admits 1 ; sleeps 0 ;";

    public static void main(String[] args) {
        newObject();
        counts();
        strikes();
        feeds();
        textsAreNumbered();
        faults();
        accepted();
        values();
        forces();
        asks();
        spreads();
        puts();
        tells();
        sleeps();
        due.end();
    }

    private static void newObject() {
        RugIsJurisdiction x = new RugIsJurisdiction();
        due.is("rugs", x.count(0), 0);
        due.is("hour", x.count(1), 12);
        due.is("texts", x.count(2), 1);
        due.is("law", x.count(3), 0);
        due.is("tape", x.count(4), 0);
        due.is("told(0, 0)", x.told(0, 0), -5);
        due.is("back()", x.back(), RugIsJurisdiction.STATE);
        for (int s = 0; s < 4; s++) {
            due.is("sheet missing", x.cell(s, 0, 0), -11);
        }
        for (int c = 0; c < 36; c++) {
            due.is("over(c, 3)", x.over(c, 3), 0);
        }
    }

    private static void counts() {
        RugIsJurisdiction x = new RugIsJurisdiction();
        x.spread(0, 0);
        x.spread(10, 35);
        x.strikes(7);
        x.force(Due.text(x, "fines 1" + REST));
        Due.feed(x, "abc");
        due.is("count(0)", x.count(0), 2);
        due.is("count(1)", x.count(1), 7);
        due.is("count(2)", x.count(2), 2);
        due.is("count(3)", x.count(3), 1);
        due.is("count(4)", x.count(4), 3);
        for (int what : new int[] {-1, 5, Integer.MIN_VALUE, Integer.MAX_VALUE}) {
            due.is("count(" + what + ")", x.count(what), -2);
        }
    }

    private static void strikes() {
        RugIsJurisdiction x = new RugIsJurisdiction();
        due.is("strikes(0)", x.strikes(0), 12);
        due.is("strikes(23)", x.strikes(23), 0);
        due.is("strikes(24)", x.strikes(24), -2);
        due.is("strikes(-1)", x.strikes(-1), -2);
        due.is("strikes(5)", x.strikes(5), 23);
        due.is("count(1)", x.count(1), 5);
    }

    private static void feeds() {
        RugIsJurisdiction x = new RugIsJurisdiction();
        for (int n = 1; n <= 5; n++) {
            due.is("feed n " + n, x.feed(n, 0, 255, 0, 255, 0), n * (n + 1) / 2);
        }
        due.is("feed n 0", x.feed(0, 0, 0, 0, 0, 0), -2);
        due.is("feed n 6", x.feed(6, 0, 0, 0, 0, 0), -2);
        for (int k = 0; k < 5; k++) {
            for (int v : new int[] {-1, 256}) {
                int[] b = new int[5];
                b[k] = v;
                due.is("feed byte " + k + " " + v, x.feed(1, b[0], b[1], b[2], b[3], b[4]), -2);
            }
        }
        due.is("nothing came", x.count(4), 15);
        for (int i = 20; i <= 155; i += 5) {
            due.is("feed to " + i, x.feed(5, 32, 32, 32, 32, 32), i);
        }
        x.feed(3, 32, 32, 32, 32, 32);
        due.is("feed 3 to 161", x.feed(3, 32, 32, 32, 32, 32), -4);
        due.is("none comes", x.count(4), 158);
        due.is("feed 2 to 160", x.feed(2, 32, 32, 32, 32, 32), 160);
        due.is("feed on a full tape", x.feed(1, 32, 32, 32, 32, 32), -4);
        due.is("BAD ahead of FULL, n", x.feed(6, 32, 32, 32, 32, 32), -2);
        due.is("BAD ahead of FULL, a byte", x.feed(1, 32, 32, 32, 32, 256), -2);
        due.is("only blanks", x.text(), -100);

        RugIsJurisdiction y = new RugIsJurisdiction();
        y.feed(5, 'f', 'i', 'n', 'e', 's');
        y.feed(2, ' ', '7', 'x', 'x', 'x');
        Due.feed(y, " ; admits 1 ; sleeps 0 ;");
        due.is("the first n come, one by one", y.text(), 1);
    }

    private static void textsAreNumbered() {
        RugIsJurisdiction x = new RugIsJurisdiction();
        for (int t = 1; t <= 5; t++) {
            due.is("text " + t, Due.text(x, "fines " + 10 * t + REST), t);
            due.is("the tape is empty", x.count(4), 0);
        }
        due.is("texts", x.count(2), 6);
        Due.feed(x, "fault");
        due.is("FULL ahead of the FAULT", x.text(), -4);
        due.is("the tape stays", x.count(4), 5);
        due.is("texts", x.count(2), 6);
        x.spread(0, 0);
        for (int t = 5; t >= 0; t--) {
            x.force(t);
            due.is("fines of text " + t, x.asks(0, 0, 0), t == 0 ? 1 : 10 * t);
        }
        RugIsJurisdiction z = new RugIsJurisdiction();
        z.spread(0, 0);
        Due.text(z, "fines 1 ; admits 1 ; sleeps not 1 ;");
        z.force(Due.text(z, "fines 1 ; admits 1 ; sleeps 1 ;"));
        due.is("nothing of a longer text stays", z.asks(2, 0, 0), 1);
        RugIsJurisdiction y = new RugIsJurisdiction();
        due.is("a fault", Due.text(y, "fines 1 x"), -108);
        due.is("the tape is empty by a fault, too", y.count(4), 0);
        due.is("no text came", y.count(2), 1);
        due.is("the next text", Due.text(y, "fines 2" + REST), 1);
    }

    private static void fault(String text, int place) {
        RugIsJurisdiction x = new RugIsJurisdiction();
        due.is("text of \"" + text + "\"", Due.text(x, text), -100 - place);
    }

    private static void faults() {
        fault("", 0);
        fault("  \n", 3);
        fault("fines", 5);
        fault("fines ", 6);
        fault("fines 1", 7);
        fault("fines 1 ", 8);
        fault("fines 1 ; admits 1 ; sleeps 0", 29);
        fault("fines 1 ; admits 1 ; sleeps 0 ; ;", 32);
        fault("fines 1 ; admits 1 ; sleeps 0 ; !", 32);
        fault("fines 1 ; admits 1 ; sleeps 0 ; x", 32);
        fault("fines 1 ; admits 1 ; sleeps 0 ; 12345", 32);
        fault("fine 1", 0);
        fault(" admits 1", 1);
        fault("fineshour", 0);
        fault("fines fines", 6);
        fault("fines 1 ; sleeps", 10);
        fault("fines 1 ; admits 1 ; admits", 21);
        fault("fines ;", 6);
        fault("fines 12345 ;", 6);
        fault("fines 00000 ;", 6);
        fault("fines 1 2", 8);
        fault("fines 1 12345", 8);
        fault("fines 1 row", 8);
        fault("fines 1 not", 8);
        fault("fines a", 6);
        fault("fines colum", 6);
        fault("fines columns", 6);
        fault("fines xow", 6);
        fault("fines roz", 6);
        fault("fines xour", 6);
        fault("xines 1", 0);
        fault("fines Row", 6);
        fault("fines rOw", 6);
        fault("fines row O", 10);
        fault("fines 1 \t ;", 8);
        fault("fines 1 \u0000", 8);
        fault("fines 1 \u00ff", 8);
        fault("fines 1 > 2", 8);
        fault("fines 1 / 2", 8);
        fault("fines 1 < 2 < 3", 12);
        fault("fines 1 = 2 = 3", 12);
        fault("fines 1 = 2 < 3", 12);
        fault("fines 1 < = 2", 10);
        fault("fines ( 1 ;", 10);
        fault("fines ( )", 8);
        fault("fines 1 ) ;", 8);
        fault("fines (1)) ;", 9);
        fault("fines + 1", 6);
        fault("fines * 1", 6);
        fault("fines 1 + ;", 10);
        fault("fines 1 + * 1", 10);
        fault("fines 1 or or 1", 11);
        fault("fines 1 and or 1", 12);
        fault("fines or 1", 6);
        fault("fines 1 + not 1", 10);
        fault("fines 1 < not 1", 10);
        fault("fines - not 1", 8);
        fault("fines ((((((1", 11);
        fault("fines ------1", 11);
        fault("fines 1 -------1", 14);
        fault("fines not not not not not not 1", 26);
        fault("fines (-(-(-1", 11);
        fault("fines not (not (not (1", 20);
        fault("fines not not not not ( - 1", 24);
        fault("fines (((((1))))) + (((((1 + (", 29);
        fault("fines 1 ; admits ------1", 22);
        fault("fines 12345 ; !", 6);
        fault(";".repeat(160), 0);
        fault(" ".repeat(160), 160);
        fault("fines 1" + " ".repeat(153), 160);
        fault("fines 1" + " ".repeat(152) + "<", 160);
        fault("z".repeat(160), 0);
        fault("fines " + "1".repeat(154), 6);
        fault("fines 1 ! 12345", 8);
    }

    private static void accepts(String text) {
        RugIsJurisdiction x = new RugIsJurisdiction();
        due.is("text of \"" + text + "\"", Due.text(x, text), 1);
    }

    private static void accepted() {
        accepts("fines1;admits1;sleeps0;");
        accepts("\n fines\n1\n;\nadmits 1;sleeps 0;\n \n");
        accepts("fines 9999" + REST);
        accepts("fines 0000" + REST);
        accepts("fines 1or 2and 3" + REST);
        accepts("fines(((((1)))))" + REST);
        accepts("fines(((((1)))))+(((((1)))))*(((((1)))))" + REST);
        accepts("fines -----1" + REST);
        accepts("fines 1------1" + REST);
        accepts("fines -----1 - -----1 * -----1 < -----1" + REST);
        accepts("fines not not not not not 1" + REST);
        accepts("fines not not not not not 1 and not not not not not 1" + REST);
        accepts("fines not not not not not 1 or not not not not not 1 < 2" + REST);
        accepts("fines not not not not (1) and (((((1)))))" + REST);
        accepts("fines (not -(-1)) or (not -(-1))" + REST);
        accepts("fines (not (not (1)))" + REST);
        accepts("fines 1 < 2 and 2 < 3 or 3 = 4" + REST);
        accepts("fines (1 < 2) < (3 = 4)" + REST);
        accepts("fines not not 1 < 2 ; admits -----1 ; sleeps not not not not not 1 ;");
        StringBuilder longest = new StringBuilder("fines 1");
        while (longest.length() + REST.length() + 2 <= 160) {
            longest.append("+1");
        }
        while (longest.length() + REST.length() < 160) {
            longest.append(' ');
        }
        accepts(longest + REST);
        due.is("the longest text", longest.length() + REST.length(), 160);
    }

    private static void value(String e, int want) {
        RugIsJurisdiction x = Due.under("fines 0 ; admits (" + e + ") = (" + want + ") ; sleeps 0 ;");
        x.spread(7, 829);
        x.put(0, 1, 13);
        due.is(e + " = " + want + ", law", x.count(3), 1);
        due.is(e + " = " + want, x.asks(1, 0, 33), 1);
    }

    private static void values() {
        value("1 + 2 * 3", 7);
        value("(1 + 2) * 3", 9);
        value("10 - 3 - 2", 5);
        value("10 - 3 + 2", 9);
        value("-2 * 3", -6);
        value("2 * -3", -6);
        value("--2", 2);
        value("1 - -1", 2);
        value("-(2 + 3)", -5);
        value("2 or 0", 1);
        value("0 or 0", 0);
        value("0 or -5", 1);
        value("2 and 4", 1);
        value("2 and 0", 0);
        value("0 and 2", 0);
        value("not 0", 1);
        value("not 5", 0);
        value("not not 5", 1);
        value("not 1 < 0", 1);
        value("not 0 and 0", 0);
        value("1 or 0 and 0", 1);
        value("(1 or 0) and 0", 0);
        value("not 1 or 1", 1);
        value("1 < 2", 1);
        value("2 < 2", 0);
        value("3 < 2", 0);
        value("-1 < 0", 1);
        value("2 = 2", 1);
        value("2 = 3", 0);
        value("1 + 1 = 2", 1);
        value("2 = 1 + 1", 1);
        value("0012", 12);
        value("column", 3);
        value("row", 5);
        value("hour", 12);
        value("guests", 13);
        value("size", 16);
        value("more", 7);
        value("9999 * 9999 - 9998 * 9999", 9999);
        RugIsJurisdiction x = Due.under("fines 0 ; admits 9999 * 9999 * 43 < 0 ; sleeps 9999 * 9999 * 22 < 0 ;");
        x.spread(0, 0);
        due.is("9999 * 9999 * 43 wraps", x.asks(1, 0, 0), 9999 * 9999 * 43 < 0 ? 1 : 0);
        due.is("9999 * 9999 * 22 wraps", x.asks(2, 0, 0), 1);
    }

    private static void forces() {
        RugIsJurisdiction x = new RugIsJurisdiction();
        due.is("force(1), no such text", x.force(1), -2);
        due.is("force(-1)", x.force(-1), -2);
        Due.text(x, "fines 33" + REST);
        due.is("a text is no law by itself", x.count(3), 0);
        due.is("force(1)", x.force(1), 0);
        x.spread(0, 0);
        due.is("fined by the law", x.over(0, 1), 33);
        due.is("force(0)", x.force(0), 1);
        due.is("fined by the law", x.over(0, 1), 1);
        due.is("force(2)", x.force(2), -2);
        due.is("law", x.count(3), 0);
    }

    private static void asks() {
        RugIsJurisdiction x = Due.under("fines 100 * column - 5 * row ; admits row - 3 ; sleeps hour = 12 ;");
        x.spread(59, 7);
        due.is("fines below 0", x.asks(0, 0, 6), 0);
        due.is("fines above 99", x.asks(0, 0, 1), 99);
        due.is("fines between", x.asks(0, 0, 7), 95);
        due.is("fines where it does not lie", x.asks(0, 0, 13), 90);
        due.is("admits below 0", x.asks(1, 0, 0), 1);
        due.is("admits 0", x.asks(1, 0, 18), 0);
        due.is("admits above 0", x.asks(1, 0, 35), 1);
        due.is("sleeps", x.asks(2, 0, 0), 1);
        x.strikes(11);
        due.is("sleeps at 11", x.asks(2, 0, 0), 0);
        due.is("part -1", x.asks(-1, 0, 0), -2);
        due.is("part 3", x.asks(3, 0, 0), -2);
        due.is("rug -1", x.asks(0, -1, 0), -2);
        due.is("rug 1", x.asks(0, 1, 0), -2);
        due.is("cell -1", x.asks(0, 0, -1), -2);
        due.is("cell 36", x.asks(0, 0, 36), -2);
        due.is("the kind does not matter", x.over(0, 1), 9);
    }

    private static void spreads() {
        RugIsJurisdiction x = new RugIsJurisdiction();
        due.is("kindMore -1", x.spread(-1, 0), -2);
        due.is("kindMore 60", x.spread(60, 0), -2);
        int[] bad = {
            -1, -100, 36, 100, 106, 600, 605, 1040, 1201, 3536, 3599, 3600, 3500, Integer.MIN_VALUE, Integer.MAX_VALUE
        };
        for (int corners : bad) {
            due.is("corners " + corners, x.spread(0, corners), -2);
        }
        due.is("none came", x.count(0), 0);
        int[] good = {0, 35, 3535, 505, 5, 30};
        int[] kindMores = {0, 19, 25, 31, 48, 59};
        for (int r = 0; r < 6; r++) {
            due.is("spread " + r, x.spread(kindMores[r], good[r]), r);
            due.is("corners " + r, x.told(r, 0), good[r]);
            due.is("guests " + r, x.told(r, 1), 0);
            due.is("kind " + r, x.told(r, 2), kindMores[r] / 10);
            due.is("more " + r, x.told(r, 3), kindMores[r] % 10);
        }
        due.is("a seventh", x.spread(0, 0), -4);
        due.is("BAD ahead of FULL", x.spread(60, 0), -2);
        due.is("BAD ahead of FULL", x.spread(0, 36), -2);
        due.is("rugs", x.count(0), 6);
    }

    private static void puts() {
        RugIsJurisdiction x = new RugIsJurisdiction();
        due.is("no rug", x.put(0, 0, 0), -5);
        x.spread(0, 7);
        due.is("lies", x.put(0, 0, 2835), 7);
        due.is("lies", x.told(0, 0), 2835);
        due.is("size", x.told(0, 4), 4);
        due.is("rules", x.rules(0), Due.bits(28, 29, 34, 35));
        due.is("guests", x.put(0, 1, 99), 0);
        due.is("guests", x.put(0, 1, 0), 99);
        due.is("guests 100", x.put(0, 1, 100), -7);
        due.is("guests -1", x.put(0, 1, -1), -7);
        due.is("corners 100", x.put(0, 0, 100), -7);
        due.is("corners -1", x.put(0, 0, -1), -7);
        due.is("corners 36", x.put(0, 0, 36), -7);
        due.is("what 2", x.put(0, 2, 0), -7);
        due.is("what -1", x.put(0, -1, 0), -7);
        due.is("no rug first", x.put(1, 2, 0), -5);
        due.is("no rug first", x.put(-1, 0, 0), -5);
        due.is("lies as it did", x.told(0, 0), 2835);
        due.is("guests as they were", x.told(0, 1), 0);
    }

    private static void tells() {
        RugIsJurisdiction x = new RugIsJurisdiction();
        x.spread(38, 721);
        x.spread(0, 14);
        x.put(0, 1, 42);
        due.is("lies", x.told(0, 0), 721);
        due.is("guests", x.told(0, 1), 42);
        due.is("kind", x.told(0, 2), 3);
        due.is("more", x.told(0, 3), 8);
        due.is("size", x.told(0, 4), 9);
        due.is("rules", x.told(0, 5), 5);
        due.is("sleeps", x.told(0, 6), 0);
        x.strikes(5);
        due.is("sleeps at 5", x.told(0, 6), 1);
        due.is("rules nothing asleep", x.told(0, 5), 0);
        due.is("what 7", x.told(0, 7), -7);
        due.is("what -1", x.told(0, -1), -7);
        due.is("no rug", x.told(2, 7), -5);
        due.is("no rug", x.told(-1, 0), -5);
    }

    /** Of each kind, hour by hour, when it sleeps. */
    private static void sleeps() {
        for (int kind = 0; kind < 6; kind++) {
            RugIsJurisdiction x = new RugIsJurisdiction();
            x.spread(10 * kind, 0);
            for (int h = 0; h < 24; h++) {
                x.strikes(h);
                boolean asRug = h < 6;
                boolean asNurse = asRug || h == 14 || h == 15;
                boolean sleeps = kind == 5 ? false : kind == 4 ? !asNurse : kind == 2 ? asNurse : asRug;
                due.is("kind " + kind + " sleeps at " + h, x.told(0, 6), sleeps ? 1 : 0);
                due.is("rules at " + h, x.over(0, 0), sleeps ? -1 : 0);
            }
        }
        RugIsJurisdiction y = Due.under("fines 1 ; admits 1 ; sleeps column = 2 and row = 1 ;");
        y.spread(0, 815);
        due.is("sleeps by the cell from which it lies", y.told(0, 6), 1);
        y.put(0, 0, 715);
        due.is("not by others", y.told(0, 6), 0);
    }
}
