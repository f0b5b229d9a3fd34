import java.util.ArrayList;
import java.util.List;
import java.util.Random;

/** Promises 17 to 20, 23, 25, 27, 29, 30 on many small roads, beside the Oracle. */
public final class OracleTest {
    private static final int[][] RIDES = {{0, 2}, {1, 0}, {2, 0}, {3, 0}, {4, 0}};
    private final Random random;
    private final FreshHorses x = new FreshHorses();
    private final Oracle oracle;
    private final String road;
    private final List<int[]> sorts = new ArrayList<>();
    private final List<Oracle.Beast> beasts = new ArrayList<>();
    private final List<Integer> letters = new ArrayList<>();
    private final int[][] rides = new int[5][];

    private OracleTest(long seed) {
        random = new Random(seed);
        road = someRoad();
        oracle = new Oracle(road);
        Due.is(road, Due.road(x, road), oracle.places.size());
        for (int s = 0; s < 1 + random.nextInt(3); s++) addSort();
        int many = random.nextInt(7);
        for (int b = 0; b < many; b++) addBeast();
        for (int r = 0; r < 5; r++) {
            int[] most = {2, 26, 0, 0, 4};
            rides[r] = new int[] {RIDES[r][0], random.nextInt(most[r] + 1)};
            x.ride(rides[r][0], rides[r][1]);
        }
    }

    public static void main(String[] args) {
        for (int seed = 0; seed < 1500; seed++) new OracleTest(seed).all();
        Due.end();
    }

    private String someRoad() {
        StringBuilder text = new StringBuilder();
        int left = 2 + random.nextInt(6);
        int stars = 0;
        while (left > 0 && stars < 4) {
            int miles = 1 + random.nextInt(Math.min(3, left));
            text.append("fffhs".charAt(random.nextInt(5))).append(miles);
            left -= miles;
            if (random.nextInt(3) > 0) {
                text.append('*');
                stars++;
            }
        }
        return text.toString();
    }

    /** Few different numbers, so that many ways are like ones. */
    private void addSort() {
        int[] s = new int[7];
        s[0] = 1 + random.nextInt(12);
        for (int i = 1; i < 4; i++) s[i] = random.nextInt(4) == 0 ? 1 + random.nextInt(30) : 5 * (1 + random.nextInt(5));
        for (int i = 4; i < 7; i++) s[i] = random.nextInt(i - 2);
        String text = s[0] + ":" + s[1] + "," + s[2] + "," + s[3] + ";" + s[4] + "," + s[5] + "," + s[6];
        Due.is(text, Due.sort(x, text), sorts.size());
        sorts.add(s);
    }

    private void addBeast() {
        int sort = random.nextInt(sorts.size());
        int place = random.nextInt(oracle.places.size() - 1);
        int strength = random.nextInt(sorts.get(sort)[0] + 1);
        int since = random.nextInt(200);
        x.beast(sort, place, strength, since);
        beasts.add(new Oracle.Beast(sorts.get(sort), place, strength, since));
    }

    private void all() {
        rides(random.nextInt(200));
        stables(random.nextInt(200));
        days();
        for (int i = 0; i < 3; i++) {
            int ride = random.nextInt(5);
            int minute = random.nextInt(300);
            Oracle.Went w = oracle.go(rides[ride][0], rides[ride][1], minute, beasts);
            Due.is(road + " ridden " + ride, x.ridden(ride, minute), w.minutes);
            Oracle.settle(beasts, w);
            stand();
        }
        rides(100 + random.nextInt(200));
        stables(100 + random.nextInt(200));
    }

    private void stand() {
        for (int b = 0; b < beasts.size(); b++) {
            Due.is(road + " place of " + b, x.about(b, 1), beasts.get(b).place);
            Due.is(road + " strength of " + b, x.about(b, 2), beasts.get(b).strength);
            Due.is(road + " since of " + b, x.about(b, 3), beasts.get(b).since);
            Due.is(road + " strength at of " + b, x.strength(b, 321), beasts.get(b).at(321));
        }
    }

    private void rides(int minute) {
        for (int r = 0; r < 5; r++) {
            Oracle.Went w = oracle.go(rides[r][0], rides[r][1], minute, beasts);
            String name = road + " ride " + r + " at " + minute;
            Due.is(name + " tried", x.tried(r, minute), w.minutes);
            for (int mile = 0; mile < oracle.grounds.size(); mile++) {
                Due.is(name + " pace of " + mile, x.way(r, minute, mile, 0), w.paces[mile]);
                Due.is(name + " beast of " + mile, x.way(r, minute, mile, 1), w.mounts[mile]);
            }
            for (int b = 0; b < beasts.size(); b++) {
                Due.is(name + " place of " + b, x.left(r, minute, b, 0), w.places[b]);
                Due.is(name + " strength of " + b, x.left(r, minute, b, 1), w.strengths[b]);
                Due.is(name + " whether ridden " + b, x.left(r, minute, b, 2), w.ridden[b] ? 1 : 0);
            }
        }
    }

    private void stables(int minute) {
        int[] missed = oracle.missed(minute, beasts);
        int[] hay = new int[8];
        for (int p = 0; p < oracle.places.size() - 1; p++) {
            hay[p] = random.nextInt(100);
            x.hay(p, hay[p]);
        }
        int price = random.nextInt(6);
        int[] shut = oracle.shut(minute, price, hay, beasts);
        int k = random.nextInt(oracle.places.size() - 1);
        int[] set = oracle.set(sorts.get(0), k);
        for (int what = 0; what < 2; what++) {
            Due.is(road + " missed " + what, x.missed(minute, what), missed[what]);
            Due.is(road + " shut " + what, x.shut(minute, price, what), shut[what]);
            Due.is(road + " set " + k + " " + what, x.set(0, k, what), set[what]);
        }
    }

    private void days() {
        int minute = 0;
        for (int i = 0; i < 1 + random.nextInt(4); i++) {
            minute += random.nextInt(80);
            letters.add(minute);
            Due.is("letter", x.letter(minute), letters.size());
        }
        for (int r = 0; r < 5; r++) {
            int[] day = oracle.day(rides[r][0], rides[r][1], letters, beasts);
            for (int what = 0; what < 3; what++) Due.is(road + " day " + r, x.day(r, what), day[what]);
            int limit = random.nextInt(25 * oracle.grounds.size());
            int few = oracle.fewest(sorts.get(0), rides[r][0], rides[r][1], limit, letters);
            Due.is(road + " fewest " + r + " " + limit, x.fewest(0, r, limit), few);
        }
    }
}
