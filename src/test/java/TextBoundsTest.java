import java.util.ArrayList;
import java.util.List;

/** Texts at the edges that the document's terms name: tokens, the grammar, what is open, the fault's place, values. */
public final class TextBoundsTest {
    private static final Due due = new Due("texts, bounds");
    private static final String REST = " ; admits 1 ; sleeps 0 ;";
    private static final String NAMES = " column row hour guests size more ";
    private static final String KEYS = " fines admits sleeps or and not ";

    public static void main(String[] args) {
        bytesOfTheTape();
        wordsAsLongAsCanBe();
        numbersOfFourDigits();
        signs();
        blanksBetween();
        everyByteWhereAOneIsDue();
        everyByteBehindAOne();
        everyByteAtTheStart();
        everyByteBehindTheEnd();
        everyByteInAWord();
        partsInTheirOrder();
        everyTokenAtEveryPlace();
        theFirstOfSeveral();
        endsTooEarly();
        comparisonsOnce();
        fiveOpen();
        fiveOpenThenClosed();
        openTillItsParenthesis();
        notTillWhatItBelongsTo();
        minusTillWhatItBelongsTo();
        minusBetweenIsNotOpen();
        whatIsNotZeroIsTrue();
        wraps();
        finesBounds();
        admitsAndSleepsBounds();
        names();
        theLaw();
        due.end();
    }

    private static void fault(String text, int place) {
        RugIsJurisdiction x = new RugIsJurisdiction();
        due.is("text of \"" + text + "\"", Due.text(x, text), -100 - place);
        due.is("texts behind \"" + text + "\"", x.count(2), 1);
        due.is("tape behind \"" + text + "\"", x.count(4), 0);
    }

    private static void accepts(String text) {
        RugIsJurisdiction x = new RugIsJurisdiction();
        due.is("text of \"" + text + "\"", Due.text(x, text), 1);
    }

    private static void value(String e, int want) {
        RugIsJurisdiction x = Due.under("fines " + e + " ; admits (" + e + ") = " + want + " ; sleeps 0 ;");
        due.is("law of " + e, x.count(3), 1);
        x.spread(0, 0);
        due.is("fines " + e, x.asks(0, 0, 0), Math.max(0, Math.min(99, want)));
        due.is(e + " = " + want, x.asks(1, 0, 0), 1);
    }

    private static void bytesOfTheTape() {
        due.by("THE TAPE (160 bytes at most)");
        String shortest = "fines1;admits1;sleeps0;";
        accepts(shortest);
        accepts(shortest + " ".repeat(160 - shortest.length()));
        accepts(" ".repeat(160 - shortest.length()) + shortest);
        accepts("fines1" + "+1".repeat(68) + " ;admits1;sleeps0;");
        fault(" ".repeat(161 - shortest.length()) + shortest.substring(0, shortest.length() - 1), 160);
        fault("fines1" + "+1".repeat(68) + ";admits1;sleeps0;x", 159);
        fault(";".repeat(160), 0);
        fault("fines" + "(".repeat(155), 10);
        fault("fines" + "1".repeat(155), 5);
        fault("z".repeat(160), 0);
    }

    private static void wordsAsLongAsCanBe() {
        due.by("WORDS (as many letters a .. z as stand there)");
        fault("finesrow" + REST, 0);
        fault("fines rowrow" + REST, 6);
        fault("fines rows" + REST, 6);
        fault("fines ro" + REST, 6);
        fault("fines r" + REST, 6);
        fault("fines notrow" + REST, 6);
        fault("fines row orrow" + REST, 10);
        fault("fines rowor row" + REST, 6);
        accepts("fines row or row" + REST);
        accepts("fines not(row)or(row)and-row" + REST);
        accepts("fines 1or 1and not 1" + REST);
        accepts("fines 1or(row)" + REST);
        fault("fines 1or1" + " x", 11);
        accepts("fines 1or1" + REST);
        accepts("fines row;admits row;sleeps row;");
        for (String word : (NAMES + KEYS).trim().split(" +")) {
            boolean isName = NAMES.contains(" " + word + " ");
            String cut = word.substring(0, word.length() - 1);
            String tail = word.substring(1);
            String other = word.substring(0, word.length() - 1) + (char) (word.charAt(word.length() - 1) + 1);
            fault("fines " + cut + REST, 6);
            fault("fines " + tail + REST, 6);
            fault("fines " + other + REST, 6);
            fault("fines " + (char) (word.charAt(0) + 1) + tail + REST, 6);
            fault("fines " + word + "s" + REST, 6);
            fault("fines 1 " + word + REST, word.equals("or") || word.equals("and") ? 9 + word.length() : 8);
            if (isName) {
                accepts("fines " + word + REST);
            } else if (!word.equals("not")) {
                fault("fines " + word + REST, 6);
            }
        }
    }

    private static void numbersOfFourDigits() {
        due.by("NUMBERS (as many digits as stand there; more than 4 are too long)");
        for (String number : new String[] {"0", "00", "000", "0000", "9", "99", "999", "9999", "1000", "0001"}) {
            accepts("fines " + number + REST);
            value(number, Integer.parseInt(number));
        }
        for (String number : new String[] {"00000", "00001", "10000", "99999", "100000", "1".repeat(100)}) {
            fault("fines " + number + REST, 6);
            fault("fines 1 + " + number + REST, 10);
            fault("fines 1 " + number + REST, 8);
        }
        fault("fines 1111 1" + REST, 11);
        accepts("fines 9999*9999" + REST);
        fault("fines row1" + REST, 9);
        fault("fines 1row" + REST, 7);
    }

    private static void signs() {
        due.by("SIGNS ( ) ; + - * < =");
        accepts("fines(1+1-1*1<1);admits(1=1);sleeps-1;");
        fault("fines 1 <= 2" + REST, 9);
        fault("fines 1 == 2" + REST, 9);
        fault("fines 1 =< 2" + REST, 9);
        fault("fines 1 ** 2" + REST, 9);
        fault("fines 1 ++ 2" + REST, 9);
        fault("fines 1;;", 8);
    }

    private static void blanksBetween() {
        due.by("blanks (32, 10) may stand between");
        accepts("\n\n fines \n 1 \n ;admits\n1\n;\nsleeps\n0\n;\n\n");
        accepts("fines\n(\n1\n+\n1\n)\n;\nadmits\nnot\nrow\n<\n1\n;\nsleeps\n-\n1\n;");
        for (int blank : new int[] {0, 9, 11, 12, 13, 31, 33, 127, 128, 133, 160, 255}) {
            fault("fines 1" + (char) blank + REST, 7);
        }
        fault("fi nes 1" + REST, 0);
        fault("fines ro w" + REST, 6);
        fault("fines 1 1" + REST, 8);
    }

    private static void everyByteWhereAOneIsDue() {
        due.by("FAULT: also of a byte that begins none (where a ONE is due)");
        for (int b = 0; b < 256; b++) {
            boolean goesOn = b == 32 || b == 10 || b >= '0' && b <= '9' || b == '(' || b == '-';
            fault("fines " + (char) b, goesOn ? 7 : 6);
            fault("fines 1 + " + (char) b, goesOn ? 11 : 10);
        }
    }

    private static void everyByteBehindAOne() {
        due.by("FAULT: also of a byte that begins none (behind a ONE)");
        for (int b = 0; b < 256; b++) {
            boolean goesOn = b == 32 || b == 10 || ";+-*<=".indexOf(b) >= 0;
            fault("fines row " + (char) b, goesOn ? 11 : 10);
            fault("fines (row " + (char) b, (goesOn || b == ')') && b != ';' ? 12 : 11);
        }
    }

    private static void everyByteAtTheStart() {
        due.by("FAULT: the place of the first byte of the first TOKEN that can't stand there");
        for (int b = 0; b < 256; b++) {
            boolean blank = b == 32 || b == 10;
            fault("" + (char) b, blank ? 1 : 0);
            if (!blank) {
                fault(" " + (char) b + "fines 1" + REST, 1);
            }
        }
    }

    private static void everyByteBehindTheEnd() {
        due.by("TEXT: fines E ; admits E ; sleeps E ; (and nothing behind)");
        String text = "fines 1" + REST;
        for (int b = 0; b < 256; b++) {
            if (b == 32 || b == 10) {
                accepts(text + (char) b);
            } else {
                fault(text + (char) b, text.length());
            }
        }
        fault(text + text, text.length());
        fault(text + " 1", text.length() + 1);
    }

    private static void everyByteInAWord() {
        due.by("WORDS (as many letters a .. z as stand there), one byte between");
        for (int b = 0; b < 256; b++) {
            String text = "fines row" + (char) b + "row" + REST;
            if ("+-*<=".indexOf(b) >= 0) {
                accepts(text);
            } else if (b >= 'a' && b <= 'z') {
                fault(text, 6);
            } else {
                // Behind a blank or a ; it is the second word that can't stand there.
                fault(text, b == ' ' || b == '\n' || b == ';' ? 10 : 9);
            }
        }
    }

    private static void partsInTheirOrder() {
        due.by("TEXT: fines E ; admits E ; sleeps E ;");
        String[] keys = {"fines", "admits", "sleeps"};
        for (String first : keys) {
            for (String second : keys) {
                for (String third : keys) {
                    String text = first + " 1 ; " + second + " 1 ; " + third + " 1 ;";
                    int behindFirst = first.length() + 5;
                    int behindSecond = behindFirst + second.length() + 5;
                    if (!first.equals("fines")) {
                        fault(text, 0);
                    } else if (!second.equals("admits")) {
                        fault(text, behindFirst);
                    } else if (!third.equals("sleeps")) {
                        fault(text, behindSecond);
                    } else {
                        accepts(text);
                    }
                }
            }
        }
        fault("fines 1 ; sleeps 0 ;", 10);
        fault("fines 1 admits 1", 8);
        fault("fines 1 ; admits 1 ; sleeps 0 fines", 30);
        fault("fines ; admits 1 ; sleeps 0 ;", 6);
        fault("fines 1 ; admits ; sleeps 0 ;", 17);
        fault("fines 1 ; admits 1 ; sleeps ;", 28);
    }

    /** Each token at each place of a text, cut off behind it: what may stand there goes on to the text's end. */
    private static void everyTokenAtEveryPlace() {
        due.by("FAULT: the first TOKEN that can't stand there");
        String[] text = {
            "fines", "not", "-", "(", "row", "<", "1", ")", "+", "2", ";", "admits", "1", "and", "2", ";", "sleeps",
            "1", "=", "2", ";"
        };
        String places = "fnnonioc" + "bob" + "anbnb" + "snlod" + "e";
        String[] all = {
            "fines", "admits", "sleeps", "or", "and", "not", "row", "1", "(", ")", ";", "+", "-", "*", "<", "=",
            "12345", "rows", "!"
        };
        for (int place = 0; place < places.length(); place++) {
            StringBuilder ahead = new StringBuilder();
            for (int i = 0; i < place; i++) {
                ahead.append(text[i]).append(' ');
            }
            for (String token : all) {
                String tape = ahead + token + " ";
                boolean fits = fits(places.charAt(place), token);
                boolean ends = "ld".indexOf(places.charAt(place)) >= 0 && token.equals(";");
                if (ends) {
                    accepts(tape);
                } else {
                    fault(tape, fits ? tape.length() : ahead.length());
                }
            }
        }
    }

    /** f, a, s: a key; n: a one or a not; o: a one; b, i: behind a one, within ( ); d, c: the same, compared; l: at last. */
    private static boolean fits(char place, String token) {
        boolean begins = token.equals("row") || token.equals("1") || token.equals("(") || token.equals("-");
        boolean joins = token.equals("+") || token.equals("-") || token.equals("*") || token.equals("or")
            || token.equals("and");
        boolean compares = token.equals("<") || token.equals("=");
        switch (place) {
            case 'f': return token.equals("fines");
            case 'a': return token.equals("admits");
            case 's': return token.equals("sleeps");
            case 'n': return begins || token.equals("not");
            case 'o': return begins;
            case 'i': return joins || compares || token.equals(")");
            case 'c': return joins || token.equals(")");
            case 'b': case 'l': return joins || compares || token.equals(";");
            case 'd': return joins || token.equals(";");
            default: return false;
        }
    }

    private static void theFirstOfSeveral() {
        due.by("FAULT: the first TOKEN that can't stand there, also of a byte that begins none");
        fault("fines ! 12345 rows", 6);
        fault("fines 12345 ! rows", 6);
        fault("fines rows ! 12345", 6);
        fault("fines 1 1 !", 8);
        fault("fines ) rows", 6);
        fault("fines 1 ; sleeps !", 10);
        fault("fines ((((((!", 11);
        fault("fines (((((!", 11);
        fault("fines 1 ; admits 1 ; sleeps 0 ; ; !", 32);
    }

    private static void endsTooEarly() {
        due.by("the text's size, if it ends too early");
        String text = "fines not ( row < 1 ) + - 2 ; admits 1 and 2 ; sleeps 1 = 2 ;";
        accepts(text);
        for (int size = 0; size < text.length(); size++) {
            boolean inAWord = size > 0 && Character.isLetter(text.charAt(size - 1));
            boolean wordEnds = !Character.isLetter(text.charAt(size));
            if (!inAWord || wordEnds) {
                fault(text.substring(0, size), size);
                fault(text.substring(0, size) + " ", size + 1);
                fault(text.substring(0, size) + "\n\n", size + 2);
            }
        }
    }

    private static void comparisonsOnce() {
        due.by("NOT: not NOT, or SUM, perhaps < or = and a SUM");
        String[] signs = {"<", "="};
        for (String a : signs) {
            for (String b : signs) {
                fault("fines 1 " + a + " 2 " + b + " 3" + REST, 12);
                fault("fines not 1 " + a + " 2 " + b + " 3" + REST, 16);
                fault("fines (1 " + a + " 2 " + b + " 3)" + REST, 13);
                accepts("fines 1 " + a + " 2 and 3 " + b + " 4" + REST);
                accepts("fines 1 " + a + " 2 or 3 " + b + " 4" + REST);
                accepts("fines (1 " + a + " 2) " + b + " 3" + REST);
                accepts("fines 1 " + a + " (2 " + b + " 3)" + REST);
                accepts("fines 1 + 1 " + a + " 2 * 3 - 4" + REST);
            }
            fault("fines 1 " + a + " not 2" + REST, 10);
            fault("fines not 1 " + a + " not 2" + REST, 14);
            accepts("fines 1 " + a + " (not 2)" + REST);
        }
    }

    /** All rows of openers, so many: "(", "not", "-". */
    private static List<String[]> openers(int many) {
        List<String[]> all = new ArrayList<>();
        String[] three = {"(", "not", "-"};
        int rows = (int) Math.pow(3, many);
        for (int row = 0; row < rows; row++) {
            String[] openers = new String[many];
            int rest = row;
            for (int i = 0; i < many; i++) {
                openers[i] = three[rest % 3];
                rest /= 3;
            }
            all.add(openers);
        }
        return all;
    }

    /** Which of them can't stand there: a not behind a -, else the sixth one; or -1. */
    private static int wrongOne(String[] openers) {
        for (int i = 0; i < openers.length; i++) {
            boolean notBehindMinus = i > 0 && openers[i].equals("not") && openers[i - 1].equals("-");
            if (i == 5 || notBehindMinus) {
                return i;
            }
        }
        return -1;
    }

    private static String closed(String[] openers) {
        StringBuilder e = new StringBuilder(String.join(" ", openers)).append(" 1");
        for (String opener : openers) {
            e.append(opener.equals("(") ? ")" : "");
        }
        return e.toString();
    }

    private static void fiveOpen() {
        for (int many = 1; many <= 6; many++) {
            for (String[] openers : openers(many)) {
                int wrong = wrongOne(openers);
                if (wrong < 0) {
                    due.by("FAULT: while 5 of these are open (5 may be)");
                    accepts("fines " + closed(openers) + REST);
                } else {
                    due.by("FAULT: a ( , a not, a - ahead of a ONE while 5 of these are open");
                    int place = 6;
                    for (int i = 0; i < wrong; i++) {
                        place += openers[i].length() + 1;
                    }
                    fault("fines " + closed(openers) + REST, place);
                }
            }
        }
        for (String part : new String[] {"fines 1 ; admits ", "fines 1 ; admits 1 ; sleeps "}) {
            fault(part + "((((((1", part.length() + 5);
            fault(part + "not not not not not not 1", part.length() + 20);
            fault(part + "------1", part.length() + 5);
        }
    }

    private static void fiveOpenThenClosed() {
        due.by("( till its ) , not and - till what they belong to ends");
        for (String[] openers : openers(5)) {
            if (wrongOne(openers) < 0) {
                String e = closed(openers);
                accepts("fines " + e + " and " + e + " or " + e + REST);
                accepts("fines " + e + ";admits " + e + ";sleeps " + e + ";");
                if (!openers[0].equals("not")) {
                    accepts("fines " + e + "+" + e + "*" + e + "<" + e + REST);
                }
            }
        }
    }

    private static void openTillItsParenthesis() {
        due.by("FAULT: a ( till its )");
        fault("fines (((((1+(1", 13);
        fault("fines (((((1)+((1", 15);
        accepts("fines (((((1)+(1))))) " + REST);
        fault("fines (((((1)+(1)))+((((1", 23);
        accepts("fines (((((1)+(1)))+((1))))" + REST);
        fault("fines (((((1)+-(1", 15);
        accepts("fines (((((1)+-1))))" + REST);
        fault("fines (((((1)+-not 1", 15);
    }

    private static void notTillWhatItBelongsTo() {
        due.by("FAULT: not till what it belongs to ends");
        String five = "fines not not not not not ";
        fault(five + "1 + (1", 30);
        fault(five + "1 * -1", 30);
        fault(five + "1 < (1", 30);
        fault(five + "1 < -1", 30);
        fault(five + "1 = 1 - -1", 34);
        accepts(five + "1 < 1 - 1 * 2" + REST);
        accepts(five + "1 < 1 and (((((1)))))" + REST);
        accepts(five + "1 < 1 or -----1" + REST);
        accepts(five + "1 and not not not not not 1" + REST);
        fault(five + "1 and not not not not not not 1", 52);
        String four = "fines not not not not ";
        accepts(four + "1 < (1) + -1 * (1)" + REST);
        fault(four + "1 < ((1", 27);
        accepts("fines (not not not not 1 and not not not not 1)" + REST);
        fault("fines (not not not not 1 and not not not not not 1", 45);
    }

    private static void minusTillWhatItBelongsTo() {
        due.by("FAULT: - till what it belongs to ends");
        accepts("fines -----1 + -----1 * -----1 - -----1 < -----1" + REST);
        accepts("fines -----1 + (((((1)))))" + REST);
        accepts("fines (----1 + ----1)" + REST);
        fault("fines (----1 + -----1", 19);
        fault("fines -(---(1", 11);
    }

    private static void minusBetweenIsNotOpen() {
        due.by("FAULT: a - ahead of a ONE (one between TERMS is none such)");
        accepts("fines 1-1-1-1-1-1-1-1" + REST);
        accepts("fines (((((1-1-1)))))" + REST);
        accepts("fines -----1-1-1" + REST);
        accepts("fines 1------1" + REST);
        fault("fines 1-------1", 13);
        accepts("fines not not not not not 1 - 1" + REST);
    }

    private static void whatIsNotZeroIsTrue() {
        due.by("of or, and, not, <, = 1 or 0 (what is not 0 is true)");
        int[] some = {-7, -1, 0, 1, 2, 9999};
        for (int a : some) {
            value("not " + a, a == 0 ? 1 : 0);
            value("not not " + a, a == 0 ? 0 : 1);
            for (int b : some) {
                value(a + " or " + b, a != 0 || b != 0 ? 1 : 0);
                value(a + " and " + b, a != 0 && b != 0 ? 1 : 0);
                value(a + " < " + b, a < b ? 1 : 0);
                value(a + " = " + b, a == b ? 1 : 0);
            }
        }
        value("2 and 1", 1);
        value("0 or 0 or 3", 1);
        value("3 and 3 and 0", 0);
        value("1 or 1 and 0", 1);
        value("not 0 or 1", 1);
        value("not (0 or 1)", 0);
        value("not 1 < 1", 1);
        value("(not 1) < 1", 1);
        value("not 2 = 2", 0);
    }

    /** Of numbers of four digits alone, 2 to the 31st and its neighbours. */
    private static void wraps() {
        due.by("An E is an int (32 bits, wrapping)");
        String least = "8192 * 8192 * 32";
        value(least + " < 0", 1);
        value("0 < " + least + " - 1", 1);
        value("-(" + least + ") < 0", 1);
        value("-(" + least + ") = " + least, 1);
        value("8192 * 8192 * 64", 0);
        value("8192 * 8192 * 64 + 5", 5);
        value("8192 * 8192 * 64 - 1", -1);
        value("8192 * 8192 * 8192", 0);
        value("0 - (" + least + ") < 0", 1);
        value("(" + least + " - 1) + 1 < 0", 1);
        value("(" + least + " - 1) * 2", -2);
        value(least + " or 0", 1);
        value("not " + least, 0);
        value(least + " - 1 < " + least, 0);
        value(least + " < " + least + " - 1", 1);
        value(least + " - 1 - -1 < 0", 1);
        value("9999 * 9999 * 9999 < 0", 9999 * 9999 * 9999 < 0 ? 1 : 0);
    }

    private static void finesBounds() {
        due.by("fines 0 .. 99, else the bound");
        value("-9999", -9999);
        value("-1", -1);
        value("0", 0);
        value("1", 1);
        value("98", 98);
        value("99", 99);
        value("100", 100);
        value("9999", 9999);
        RugIsJurisdiction x = Due.under("fines 8192 * 8192 * 32 ; admits 1 ; sleeps 0 ;");
        x.spread(0, 0);
        due.is("fines the least int", x.asks(0, 0, 0), 0);
        x.force(Due.text(x, "fines 8192 * 8192 * 32 - 1 ; admits 1 ; sleeps 0 ;"));
        due.is("fines the greatest int", x.asks(0, 0, 0), 99);
    }

    private static void admitsAndSleepsBounds() {
        due.by("admits, sleeps: yes, if it isn't 0");
        String[] says = {"0", "1", "2", "-1", "9999", "-9999", "8192 * 8192 * 32", "8192 * 8192 * 64", "1 - 1"};
        int[] want = {0, 1, 1, 1, 1, 1, 1, 0, 0};
        for (int i = 0; i < says.length; i++) {
            RugIsJurisdiction x = Due.under("fines 1 ; admits " + says[i] + " ; sleeps " + says[i] + " ;");
            x.spread(0, 0);
            due.is("admits " + says[i], x.asks(1, 0, 0), want[i]);
            due.is("sleeps " + says[i], x.asks(2, 0, 0), want[i]);
            due.is("told(0, 6) by " + says[i], x.told(0, 6), want[i]);
            due.is("over(0, 0) by " + says[i], x.over(0, 0), -want[i]);
        }
    }

    private static void names() {
        due.by("of a RUG and a CELL: column, row; hour: HOUR; guests: GUESTS; size: SIZE; more: MORE");
        int[][] ends = {{0, 0, 0, 0, 1, 0}, {5, 5, 23, 99, 36, 9}, {2, 4, 13, 1, 6, 5}};
        int[] corners = {0, 35, 5};
        for (int i = 0; i < 3; i++) {
            int[] e = ends[i];
            String all = "column = " + e[0] + " and row = " + e[1] + " and hour = " + e[2] + " and guests = " + e[3]
                + " and size = " + e[4] + " and more = " + e[5];
            RugIsJurisdiction x = Due.under("fines 1 ; admits " + all + " ; sleeps 0 ;");
            x.spread(e[5], corners[i]);
            x.put(0, 1, e[3]);
            x.strikes(e[2]);
            for (int c = 0; c < 36; c++) {
                due.is("all names on " + c, x.asks(1, 0, c), c == e[0] + 6 * e[1] ? 1 : 0);
            }
        }
    }

    private static void theLaw() {
        due.by("TEXT 0, at first, and THE LAW: fines 1 + guests ; admits guests < 20 ; sleeps hour < 6 ;");
        RugIsJurisdiction x = new RugIsJurisdiction();
        x.spread(0, 0);
        for (int guests : new int[] {0, 1, 18, 19, 20, 21, 97, 98, 99}) {
            x.put(0, 1, guests);
            due.is("fines of " + guests, x.asks(0, 0, 35), Math.min(99, 1 + guests));
            due.is("admits of " + guests, x.asks(1, 0, 35), guests < 20 ? 1 : 0);
        }
        for (int h = 0; h < 24; h++) {
            x.strikes(h);
            due.is("sleeps at " + h, x.asks(2, 0, 35), h < 6 ? 1 : 0);
        }
    }
}
