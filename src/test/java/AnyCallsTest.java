import java.util.Random;

/** Up to 512 calls with any numbers in any state: none throws, and a refusal changes nothing. */
public final class AnyCallsTest {
    private static final int[] EDGES = {-1, 0, 1, 2, 3, 4, 5, 6, 7, 8, 11, 12, 17, 26, 27, 30, 53, 54, 90, 99, 100, 126,
        127, 300, 999, 1000, 9998, 9999, 10000, Integer.MAX_VALUE, Integer.MIN_VALUE};
    private static final String[] TEXTS = {"f2*h1s1*f2", "f9h9s6", "f1*h1*s1*f1*f1*f1*f9*", "s3*", "4:10,6,3;0,1,2",
        "12:30,1,2;9,0,1", "1:1,1,1;0,0,0", "c0wwtc1rtoo", "oooooo", "c0rrdoooo", "c11w", "f9f9f9", "4:10,", "c", "x"};
    private final Random random;
    private final FreshHorses x = new FreshHorses();

    private AnyCallsTest(long seed) {
        random = new Random(seed);
    }

    public static void main(String[] args) {
        for (int seed = 0; seed < 1000; seed++) new AnyCallsTest(seed).run();
        Due.end();
    }

    private void run() {
        for (int i = 0; i < 110; i++) {
            if (random.nextInt(4) == 0) text();
            long before = x.digest();
            int which = random.nextInt(33);
            long answer = which < 16 ? small(which) : large(which);
            boolean refused = answer <= -101 && answer >= -104 || answer <= -100001 && answer >= -100003;
            if (refused) Due.is("a refusal of call " + which + " changes nothing", x.digest(), before);
        }
        Due.is("count 6 is told", x.count(6) >= 0 ? 1 : 0, 1);
    }

    private void text() {
        x.blank();
        Due.write(x, TEXTS[random.nextInt(TEXTS.length)]);
        int what = random.nextInt(8);
        if (what == 0) x.road();
        else if (what < 3) x.sort();
        else if (what < 4) x.tell();
    }

    private int n() {
        return random.nextInt(3) == 0 ? EDGES[random.nextInt(EDGES.length)] : random.nextInt(3);
    }

    private long small(int which) {
        switch (which) {
            case 0: return x.letters(random.nextBoolean() ? random.nextLong() : Due.word("f2*f1"));
            case 1: return x.blank();
            case 2: return x.fault(n());
            case 3: return x.road();
            case 4: return x.sort();
            case 5: return x.ride(n(), n());
            case 6: return x.tell();
            case 7: return x.as(n(), n());
            case 8: return x.roadTold(n());
            case 9: return x.sortTold(n(), n());
            case 10: return x.takes(n(), n(), n(), n());
            case 11: return x.beast(n(), n(), n(), n());
            case 12: return x.about(n(), n());
            case 13: return x.strength(n(), n());
            case 14: return x.lead(n(), n());
            default: return x.tried(n(), n());
        }
    }

    private long large(int which) {
        switch (which) {
            case 16: return x.left(n(), n(), n(), n());
            case 17: return x.way(n(), n(), n(), n());
            case 18: return x.ridden(n(), n());
            case 19: return x.wrong(n(), n());
            case 20: return x.sooner(n(), n(), n());
            case 21: return x.set(n(), n(), n());
            case 22: return x.gap(n(), n(), n());
            case 23: return x.missed(n(), n());
            case 24: return x.hay(n(), n());
            case 25: return x.shut(n(), n(), n());
            case 26: return x.letter(n());
            case 27: return x.day(n(), n());
            case 28: return x.fewest(n(), n(), n());
            case 29: return x.image();
            case 30: return x.restore();
            case 31: return x.count(n());
            default: return x.beast(n(), n(), n(), n());
        }
    }
}
