import java.nio.charset.StandardCharsets;

/** Counts and prints answers that are not as due; what several tests need to set an object up. */
final class Due {
    private final String about;
    private int asked = 0;
    private int wrong = 0;

    Due(String about) {
        this.about = about;
    }

    void is(String call, long got, long want) {
        asked++;
        if (got != want) {
            wrong++;
            System.out.println(about + ": " + call + " answered " + got + ", due is " + want);
        }
    }

    void end() {
        System.out.println(about + ": " + asked + " answers, " + wrong + " not as due");
        if (wrong != 0 || asked == 0) {
            System.exit(1);
        }
    }

    /** Feeds all of a text, by as few calls as can be: the last call's answer. */
    static int feed(RugIsJurisdiction x, String text) {
        byte[] bytes = text.getBytes(StandardCharsets.ISO_8859_1);
        int answer = x.count(4);
        for (int i = 0; i < bytes.length; i += 5) {
            int[] five = new int[5];
            int n = Math.min(5, bytes.length - i);
            for (int k = 0; k < n; k++) {
                five[k] = bytes[i + k] & 255;
            }
            answer = x.feed(n, five[0], five[1], five[2], five[3], five[4]);
        }
        return answer;
    }

    static int text(RugIsJurisdiction x, String text) {
        feed(x, text);
        return x.text();
    }

    /** Makes a text the law. */
    static RugIsJurisdiction under(String law) {
        RugIsJurisdiction x = new RugIsJurisdiction();
        x.force(text(x, law));
        return x;
    }

    static void row(RugIsJurisdiction x, int s, int sort, int... numbers) {
        x.sheet(s, sort, numbers.length);
        for (int i = 0; i < numbers.length; i++) {
            x.cell(s, i, numbers[i]);
        }
    }

    static long bits(int... places) {
        long bits = 0;
        for (int place : places) {
            bits |= 1L << place;
        }
        return bits;
    }
}
