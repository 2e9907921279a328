import java.util.NoSuchElementException;
import java.util.Random;

/** Whatever is asked in whatever state: nothing is thrown but look's exception, and the limits hold. */
public final class HardInputTest {
    private static final int[] EDGES = {Integer.MIN_VALUE, Integer.MIN_VALUE + 1, -2, -1, 0, 1, 2, 3, 4, 5, 6, 7, 8, 9,
        10, 59, 60, 61, 199, 200, 201, 255, 256, 300, 301, 600, 601, 719, 720, 999, 1000, 10000, 10001,
        Integer.MAX_VALUE - 1, Integer.MAX_VALUE};
    private static final String SIGNS = "fewhnandgustorklip0123456789()<=+-; \n?A~";

    public static void main(String[] args) {
        Check check = new Check("HardInputTest");
        Random random = new Random(11);
        for (int run = 0; run < 400; run++) {
            ShoreDay day = new ShoreDay();
            for (int call = 0; call < 512; call++) {
                ask(day, random);
            }
            check.yes("ships", day.count(0) <= 4);
            check.yes("tenders", day.count(1) <= 6);
            check.yes("tours", day.count(2) <= 8);
            check.yes("groups", day.count(3) <= 60);
            check.yes("NOW", day.count(4) <= 719);
            check.yes("tape", day.count(9) <= 600);
        }
        check.end();
    }

    private static int edge(Random random) {
        return random.nextInt(3) == 0 ? EDGES[random.nextInt(EDGES.length)] : random.nextInt(8);
    }

    private static long signs(Random random) {
        long bytes = 0;
        for (int i = 0; i < 8; i++) {
            bytes = bytes << 8 | SIGNS.charAt(random.nextInt(SIGNS.length()));
        }
        return random.nextInt(9) == 0 ? random.nextLong() : bytes;
    }

    private static void ask(ShoreDay day, Random random) {
        int a = edge(random);
        int b = edge(random);
        int c = edge(random);
        int d = edge(random);
        switch (random.nextInt(18)) {
            case 0: day.ship(a, random.nextInt(730), b); break;
            case 1: day.tender(a, b); break;
            case 2: day.tour(random.nextInt(730), a, b, c); break;
            case 3: day.group(a, b, c, random.nextInt(730), edge(random), d); break;
            case 4: day.group(random.nextInt(4), 1 + random.nextInt(60), c, 0, -1, 1 + random.nextInt(9)); break;
            case 5: day.holds(a); break;
            case 6: day.shut(a, b); break;
            case 7: day.minutes(random.nextInt(4) == 0 ? a : random.nextInt(9)); break;
            case 8: day.feed(signs(random), signs(random), signs(random)); break;
            case 9: day.text(); break;
            case 10: day.guide(a); break;
            case 11: day.plan(); break;
            case 12: day.planned(a); break;
            case 13: day.lies(a, b); break;
            case 14: day.guests(a, b); break;
            case 15: day.rides(a, b); break;
            case 16: day.count(a); break;
            default: look(day, a, b); break;
        }
    }

    private static void look(ShoreDay day, int group, int what) {
        boolean due = group < 0 || group >= day.count(3) || what < 0 || what > 5;
        boolean thrown = false;
        try {
            day.look(group, what);
        } catch (NoSuchElementException e) {
            thrown = true;
        }
        if (thrown != due) {
            throw new IllegalStateException("look(" + group + ", " + what + ")");
        }
    }
}
