import java.util.Random;

/** Courts of more SUITS and SHEETS than the random runs have, for the calls that count far. */
public final class LargeCourtsTest {
    private static final String LETTERS = "sofdph";
    private static int checks;
    private static int wrong;

    private LargeCourtsTest() {
    }

    private static void due(String call, long got, long want) {
        checks++;
        if (got != want) {
            wrong++;
            System.out.println(call + " answered " + got + ", due is " + want);
        }
    }

    private static String court(Random random, int suits, int own, int other) {
        StringBuilder text = new StringBuilder("n" + own + ":" + other);
        for (int i = 0; i < suits; i++) {
            char letter = LETTERS.charAt(random.nextInt(i == 0 ? 5 : 6));
            text.append(letter).append(1 + random.nextInt(9));
            if (letter == 'h') {
                text.append(random.nextInt(i));
            } else if (letter == 'd' || letter == 'p') {
                text.append(1 + random.nextInt(9));
            }
        }
        return text.toString();
    }

    private static void layAll(Random random, HeavyFiles x, PlainFiles plain, int r, int suits, int sheets) {
        x.row(r, suits);
        plain.row(r, suits);
        int left = sheets;
        for (int i = 0; i < suits; i++) {
            int v = random.nextInt(left / 2 + 1);
            left -= v;
            x.lay(r, i, v);
            plain.lay(r, i, v);
        }
    }

    private static void compare(Random random, int suits, int own, int other, boolean isFar) {
        String text = court(random, suits, own, other);
        HeavyFiles x = new HeavyFiles();
        PlainFiles plain = new PlainFiles();
        x.text(0, text.length());
        plain.text(0, text.length());
        for (int i = 0; i < text.length(); i++) {
            x.put(0, i, text.charAt(i));
            plain.put(0, i, text.charAt(i));
        }
        due(text + " court", x.court(0), plain.court(0));
        layAll(random, x, plain, 0, suits, own);
        layAll(random, x, plain, 1, suits, other);
        due(text + " best", x.best(1, 2), plain.best(1, 2));
        due(text + " sheets", x.asked(), plain.asked());
        due(text + " sure", x.sure(0), plain.sure(0));
        due(text + " ways", x.ways(1, 20), plain.ways(1, 20));
        due(text + " upper", x.upper(), plain.upper());
        due(text + " lower", x.lower(), plain.lower());
        if (isFar) {
            int v = random.nextInt(18 * suits);
            due(text + " fewest", x.fewest(1, v), plain.fewest(1, v));
            due(text + " score", x.asked(), plain.asked());
        }
        due(text + " digest", x.digest(), plain.digest());
    }

    public static void main(String[] args) {
        Random random = new Random(7);
        for (int n = 0; n < 12; n++) {
            compare(random, 6, 12, 12, false);
            compare(random, 5, 12 + random.nextInt(8), 18, false);
            compare(random, 4, 20 + random.nextInt(8), 26, false);
            compare(random, 3, 40, 40, true);
        }
        System.out.println(checks + " answers, " + wrong + " not as due");
        if (wrong != 0) {
            System.exit(1);
        }
    }
}
