import java.nio.charset.StandardCharsets;

/** Counts and prints answers that are not as due; what several tests need to set an object up. */
final class Due {
    /** Makes an object as it stands ahead of a call; alike each time. */
    interface Recipe {
        RugIsJurisdiction make();
    }

    interface Call {
        long on(RugIsJurisdiction x);
    }

    private final String about;
    private String sentence = "";
    private int asked = 0;
    private int wrong = 0;

    Due(String about) {
        this.about = about;
    }

    void is(String call, long got, long want) {
        asked++;
        if (got != want) {
            wrong++;
            System.out.println(about + ": " + sentence + call + " answered " + got + ", due is " + want);
        }
    }

    /** Which sentence of the document the answers from here on are due by. */
    void by(String said) {
        sentence = "\"" + said + "\" ";
    }

    /** A call answers that, and changes nothing that can be seen. */
    void changesNothing(String call, Recipe recipe, Call made, long want) {
        RugIsJurisdiction x = recipe.make();
        is(call, made.on(x), want);
        String[] is = Seen.of(x).split("\n");
        String[] was = Seen.of(recipe.make()).split("\n");
        String changed = "";
        for (int i = 0; i < Math.max(is.length, was.length); i++) {
            String a = i < was.length ? was[i] : "nothing";
            String b = i < is.length ? is[i] : "nothing";
            changed += a.equals(b) ? "" : " (" + a + ": now " + b + ")";
        }
        is(call + " changes" + changed, changed.isEmpty() ? 0 : 1, 0);
    }

    void end() {
        System.out.println(about + ": " + asked + " answers, " + wrong + " not as due");
        if (wrong != 0 || asked == 0) {
            System.exit(1);
        }
    }

    /** Feeds all of a text, by as few calls as can be: the last call's answer. */
    static int feed(RugIsJurisdiction x, String text) {
        byte[] bytes = text.getBytes(StandardCharsets.ISO_8859_1);
        int answer = x.count(4);
        for (int i = 0; i < bytes.length; i += 5) {
            int[] five = new int[5];
            int n = Math.min(5, bytes.length - i);
            for (int k = 0; k < n; k++) {
                five[k] = bytes[i + k] & 255;
            }
            answer = x.feed(n, five[0], five[1], five[2], five[3], five[4]);
        }
        return answer;
    }

    static int text(RugIsJurisdiction x, String text) {
        feed(x, text);
        return x.text();
    }

    /** Makes a text the law. */
    static RugIsJurisdiction under(String law) {
        RugIsJurisdiction x = new RugIsJurisdiction();
        x.force(text(x, law));
        return x;
    }

    /** Something of all there is: four rugs, two texts, a tape, an image, a walk, told fines, ints, no sheet 3. */
    static RugIsJurisdiction rich() {
        RugIsJurisdiction x = new RugIsJurisdiction();
        x.strikes(9);
        x.spread(3, 7);
        x.put(0, 1, 2);
        x.image();
        x.put(0, 1, 4);
        x.spread(57, 215);
        x.spread(25, 2435);
        x.put(2, 1, 5);
        x.spread(34, 1421);
        x.strikes(17);
        x.force(text(x, "fines 2 + column + guests ; admits guests < 9 ; sleeps hour < 3 ;"));
        feed(x, "ab");
        row(x, 0, 0, 0, 1, 2, 8, 14);
        x.film(1, 7, 24);
        row(x, 2, 2, 3, 14, 9, 3, 8, 35, 7);
        return x;
    }

    static void row(RugIsJurisdiction x, int s, int sort, int... numbers) {
        x.sheet(s, sort, numbers.length);
        for (int i = 0; i < numbers.length; i++) {
            x.cell(s, i, numbers[i]);
        }
    }

    static long bits(int... places) {
        long bits = 0;
        for (int place : places) {
            bits |= 1L << place;
        }
        return bits;
    }
}
