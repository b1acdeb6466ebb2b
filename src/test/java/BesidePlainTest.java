import java.lang.reflect.Method;
import java.lang.reflect.Modifier;
import java.util.ArrayList;
import java.util.Arrays;
import java.util.Comparator;
import java.util.List;
import java.util.Random;

/** Runs of calls drawn by fixed seeds, each answer set beside that of Plain; no call may throw. */
public final class BesidePlainTest {
    private static final int RUNS = 400, CALLS = 512;
    private static final int[] WILD = {
        Integer.MIN_VALUE, -2147483600, -1000, -101, -100, -15, -8, -3, -2, -1, 0, 1, 2, 3, 4, 5, 6, 7, 11, 12, 23,
        24, 25, 35, 36, 39, 40, 41, 59, 60, 99, 100, 135, 136, 255, 256, 3535, 3536, 3599, 3600, 99999, 100000,
        2147483600, Integer.MAX_VALUE
    };

    private final Random lots;
    private RugIsJurisdiction x;
    private Plain plain;
    private final List<String> told = new ArrayList<>();
    private int calls;

    private BesidePlainTest(long seed) {
        lots = new Random(seed);
    }

    public static void main(String[] args) throws Exception {
        int runs = args.length > 0 ? Integer.parseInt(args[0]) : RUNS;
        int from = args.length > 1 ? Integer.parseInt(args[1]) : 0;
        int wrong = 0;
        for (int run = from; run < from + runs; run++) {
            if (!new BesidePlainTest(run).agrees(run)) {
                wrong++;
            }
        }
        System.out.println("beside Plain: " + runs + " runs, " + wrong + " not as due");
        if (wrong != 0) {
            System.exit(1);
        }
    }

    private static Method[] face() {
        return Arrays.stream(RugIsJurisdiction.class.getDeclaredMethods())
            .filter(m -> Modifier.isPublic(m.getModifiers()))
            .sorted(Comparator.comparing(Method::getName))
            .toArray(Method[]::new);
    }

    private boolean agrees(int run) throws Exception {
        x = new RugIsJurisdiction();
        plain = new Plain();
        calls = 0;
        Method[] face = face();
        List<Integer> bytes = new ArrayList<>();
        while (calls < CALLS) {
            boolean same;
            if (!bytes.isEmpty()) {
                same = agreesOn(method(face, "feed"), nextFive(bytes)) && (!bytes.isEmpty()
                    || agreesOn(method(face, "text"), new Object[0]) && forced(face));
            } else if (lots.nextInt(40) == 0) {
                bytes = RandomText.bytes(lots);
                same = true;
            } else {
                Method m = face[lots.nextInt(face.length)];
                same = agreesOn(m, arguments(m));
                if (same && m.getName().equals("sheet")) {
                    same = filled(face);
                }
            }
            if (!same) {
                System.out.println("run " + run + ": " + String.join(" ", told));
                return false;
            }
        }
        return true;
    }

    private static Method method(Method[] face, String name) {
        return Arrays.stream(face).filter(m -> m.getName().equals(name)).findFirst().get();
    }

    private boolean forced(Method[] face) throws Exception {
        return agreesOn(method(face, "force"), new Object[] {plain.texts.size() - 1});
    }

    private Object[] nextFive(List<Integer> bytes) {
        Object[] five = {Math.min(5, bytes.size()), 0, 0, 0, 0, 0};
        for (int i = 1; i <= 5 && !bytes.isEmpty(); i++) {
            five[i] = bytes.remove(0);
        }
        return five;
    }

    /** A walk, rugs, or told fines that are nearly so, on a sheet. */
    private boolean filled(Method[] face) throws Exception {
        int s = lots.nextInt(4);
        if (plain.sheets[s] == null) {
            return true;
        }
        int n = java.lang.reflect.Array.getLength(plain.sheets[s]);
        int sort = lots.nextInt(4);
        if (sort == 3 && n > 24) {
            return true;
        }
        int at = lots.nextInt(36);
        int fined = lots.nextInt(36);
        int off = lots.nextInt(60);
        for (int i = 0; i < n; i++) {
            int v;
            if (sort == 3) {
                v = plain.fined(fined, i) + (i == off ? 1 : 0);
            } else if (sort == 2) {
                v = i % 2 == 0 ? lots.nextInt(62) - 1 : corners();
            } else {
                v = at;
                int step = new int[] {1, -1, 6, -6}[lots.nextInt(4)];
                at = Plain.isCell(at + step) && Plain.beside(at, at + step) ? at + step : at % 6 < 5 ? at + 1 : at - 1;
            }
            if (!agreesOn(method(face, "cell"), new Object[] {s, i, v})) {
                return false;
            }
        }
        return sort > 1 || agreesOn(method(face, "walk"), new Object[] {s, lots.nextInt(4)})
            && agreesOn(method(face, "visit"), new Object[] {s});
    }

    private boolean agreesOn(Method m, Object[] arguments) throws Exception {
        if (calls >= CALLS || isOpenToReadings(m, arguments)) {
            return true;
        }
        calls++;
        Method other = Plain.class.getMethod(m.getName(), m.getParameterTypes());
        Object want = other.invoke(plain, arguments);
        Object got = m.invoke(x, arguments);
        told.add(m.getName() + Arrays.toString(arguments) + "=" + got);
        if (!got.equals(want)) {
            told.add("<- due is " + want);
            return false;
        }
        return true;
    }

    /** What sleeps says of another cell than that from which a rug lies can be read either way. */
    private boolean isOpenToReadings(Method m, Object[] arguments) {
        if (!m.getName().equals("asks") || !arguments[0].equals(2)) {
            return false;
        }
        int r = (Integer) arguments[1];
        int c = (Integer) arguments[2];
        return plain.isRug(r) && Plain.isCell(c) && c != plain.rugs.get(r).from;
    }

    private Object[] arguments(Method m) {
        Object[] all = new Object[m.getParameterCount()];
        int[] likely = likely(m.getName());
        for (int i = 0; i < all.length; i++) {
            all[i] = likely[i];
        }
        if (all.length > 0 && lots.nextInt(6) == 0) {
            all[lots.nextInt(all.length)] = WILD[lots.nextInt(WILD.length)];
        }
        if (all.length > 0 && lots.nextInt(12) == 0) {
            all[lots.nextInt(all.length)] = lots.nextInt(12) - 3;
        }
        return all;
    }

    private int corners() {
        int a = lots.nextInt(36);
        int column = a % 6 + lots.nextInt(6 - a % 6);
        int row = a / 6 + lots.nextInt(6 - a / 6);
        return 100 * a + 6 * row + column;
    }

    private int in(int bound) {
        return lots.nextInt(bound);
    }

    private int[] likely(String name) {
        int rug = in(Math.max(1, plain.rugs.size()));
        switch (name) {
            case "count": return new int[] {in(5)};
            case "strikes": return new int[] {in(24)};
            case "feed": return new int[] {1, in(256), in(256), in(256), in(256), in(256)};
            case "text": case "image": case "back": return new int[0];
            case "force": return new int[] {in(plain.texts.size())};
            case "asks": {
                int part = in(3);
                return new int[] {part, rug, part == 2 && !plain.rugs.isEmpty() ? plain.rugs.get(rug).from : in(36)};
            }
            case "spread": return new int[] {in(60), corners()};
            case "put": {
                int what = in(2);
                return new int[] {rug, what, what == 0 ? corners() : in(5) == 0 ? in(100) : in(8)};
            }
            case "told": return new int[] {rug, in(7)};
            case "over": return new int[] {in(36), in(4)};
            case "rules": return new int[] {rug};
            case "walk": return new int[] {in(4), in(4)};
            case "visit": return new int[] {in(4)};
            case "ball": return new int[] {in(36), in(4), in(3)};
            case "way": return new int[] {100 * in(36) + in(36), in(3)};
            case "borders": return new int[] {rug};
            case "league": case "place": case "share": case "mean": return new int[] {rug, in(2)};
            case "freest": case "fold": return new int[] {in(2)};
            case "judge": case "laws": return new int[] {in(4), in(36)};
            case "kinds": case "crowds": return new int[] {in(4), in(36), rug, in(2)};
            case "where": return new int[] {in(4)};
            case "film": return new int[] {in(4), in(36), in(25)};
            case "drawn": return new int[] {in(100000), in(3600), in(3)};
            case "odds": return new int[] {in(100000), 1 + in(40), in(3600), in(400), in(2)};
            case "sheet": return new int[] {in(4), in(8) == 0 ? -1 : in(3), in(41)};
            case "cell": return new int[] {in(4), in(41), WILD[in(WILD.length)]};
            case "copy": return new int[] {in(4), in(12), in(4), in(12), in(12)};
            case "rugsBy": return new int[] {in(4), in(3), in(12), in(7)};
            case "taken": return new int[] {in(12), in(7)};
            default: throw new IllegalStateException(name);
        }
    }

    /** Texts of the grammar, some of them spoiled. */
    private static final class RandomText {
        static List<Integer> bytes(Random lots) {
            StringBuilder text = new StringBuilder();
            String[] keys = {"fines", "admits", "sleeps"};
            for (String key : keys) {
                text.append(blank(lots, true)).append(key).append(blank(lots, true));
                either(lots, text, lots.nextInt(5));
                text.append(blank(lots, false)).append(';');
            }
            if (lots.nextInt(3) == 0) {
                spoil(lots, text);
            }
            List<Integer> bytes = new ArrayList<>();
            for (int i = 0; i < text.length() && i < 165; i++) {
                bytes.add((int) text.charAt(i));
            }
            return bytes;
        }

        private static void spoil(Random lots, StringBuilder text) {
            String[] spoilers = {
                "or", "and", "not", "fines", "12345", "0000", "x", "(", ")", ";", "-", "<", "=", "*", "\t", "\u00e9",
                "A", "0", " ", "\n", "{", "`", "/", ":", "hours", "not not not not not not ", "------", "(((((("
            };
            int at = lots.nextInt(text.length() + 1);
            String spoiler = spoilers[lots.nextInt(spoilers.length)];
            if (lots.nextInt(3) == 0) {
                text.setLength(at);
            } else if (lots.nextBoolean() && at < text.length()) {
                text.replace(at, at + 1, spoiler);
            } else {
                text.insert(at, spoiler);
            }
        }

        private static String blank(Random lots, boolean apart) {
            String[] blanks = {" ", "\n", "  ", ""};
            String blank = blanks[lots.nextInt(4)];
            return apart && blank.isEmpty() ? " " : blank;
        }

        private static void either(Random lots, StringBuilder text, int depth) {
            String[] words = {" or ", " and ", "<", "=", "+", "-", "*", " + ", " * "};
            int n = lots.nextInt(3);
            one(lots, text, depth);
            boolean compared = false;
            for (int i = 0; i < n; i++) {
                String sign = words[lots.nextInt(words.length)];
                boolean compares = sign.equals("<") || sign.equals("=");
                if (compares && compared) {
                    sign = "-";
                }
                compared |= compares;
                text.append(sign);
                if (sign.contains("d ") || sign.contains("r ")) {
                    compared = false;
                    if (lots.nextInt(3) == 0) {
                        text.append("not ");
                    }
                }
                one(lots, text, depth);
            }
        }

        private static void one(Random lots, StringBuilder text, int depth) {
            String[] names = {"column", "row", "hour", "guests", "size", "more"};
            switch (lots.nextInt(depth > 0 ? 6 : 4)) {
                case 0: text.append(lots.nextInt(30)); break;
                case 1: text.append(lots.nextInt(8) == 0 ? "9999" : "" + lots.nextInt(4)); break;
                case 2: case 3: text.append(names[lots.nextInt(6)]); break;
                case 4:
                    text.append('(');
                    if (lots.nextInt(3) == 0) {
                        text.append("not ");
                    }
                    either(lots, text, depth - 1);
                    text.append(')');
                    break;
                default:
                    text.append('-');
                    one(lots, text, depth - 1);
            }
        }
    }
}
