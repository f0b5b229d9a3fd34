import java.math.BigInteger;
import java.util.ArrayList;
import java.util.List;

/** Promises 31 to 34, sentence by sentence: IMAGE, counts, digest at their edges; and promise 1. */
public final class ImageEdgesTest {
    private static final int OUTSIDE = FreshHorses.OUTSIDE, STATE = FreshHorses.STATE, UNKNOWN = FreshHorses.UNKNOWN;
    private static final int NONE = FreshHorses.NONE;
    private static final String MOST = "f4*h3*s3*f3*h3*s4*f4*";

    public static void main(String[] args) {
        nothingAtFirst();
        imageOfNothing();
        imageOfAll();
        imageKeepsNoMore();
        theLatest();
        noneKept();
        anotherRoad();
        countEdges();
        countsOfAll();
        digestOfNothing();
        digestOfAll();
        digestInOrder();
        digestOfEachNumber();
        twoObjects();
        Due.end();
    }

    private static void nothingAtFirst() {
        FreshHorses x = new FreshHorses();
        Due.is("1 no ROAD", x.roadTold(0), STATE);
        Due.is("1 no SORTS", x.sortTold(0, 0), UNKNOWN);
        Due.is("1 no BEASTS", x.about(0, 0), UNKNOWN);
        Due.is("1 no RIDES", x.as(0, 0), UNKNOWN);
        Due.is("1 no IMAGE", x.restore(), STATE);
        Due.is("1 an empty PAGE", x.blank(), 0);
        for (int what = 0; what < 9; what++) Due.is("1 count " + what, x.count(what), 0);
    }

    /** As much as there can be of all. */
    private static FreshHorses most() {
        FreshHorses x = new FreshHorses();
        Due.is("5 most", Due.road(x, MOST), 8);
        for (int s = 0; s < 4; s++) Due.is("6 most", Due.sort(x, (12 - s) + ":30,20," + (10 + s) + ";" + s + ",2,9"), s);
        for (int b = 0; b < 12; b++) Due.is("13 most", x.beast(b % 4, b % 7, b % 9, 800 * b), b);
        int[] n = {2, 26, 0, 0, 12, 1, 13};
        int[] kind = {0, 1, 2, 3, 4, 0, 1};
        for (int r = 0; r < 7; r++) Due.is("7 most", x.ride(kind[r], n[r]), r);
        Due.is("8 most", Due.tell(x, "o".repeat(24)), 7);
        for (int p = 0; p < 7; p++) x.hay(p, 999 - p);
        for (int l = 0; l < 10; l++) Due.is("28 most", x.letter(1111 * l), l + 1);
        for (int i = 0; i < 11; i++) x.letters(Due.word("~~~~~~~~"));
        Due.is("2 most", x.letters(Due.word("~~")), 90);
        return x;
    }

    // ---- IMAGE

    private static void imageOfNothing() {
        FreshHorses x = Due.ready();
        Due.is("31 no BEASTS", x.image(), 0);
        x.beast(0, 0, 1, 0);
        x.hay(0, 5);
        x.letter(7);
        Due.is("32 no BEASTS", x.restore(), 0);
        Due.is("32 none is there", x.count(1), 0);
        Due.is("32 no HAY", x.hay(0, 0), 0);
        Due.is("32 no LETTERS", x.count(3), 0);
        Due.is("32 and another can come at 0", x.letter(0), 1);
    }

    private static void imageOfAll() {
        FreshHorses x = most();
        long before = x.digest();
        Due.is("31 twelve", x.image(), 12);
        Due.is("31 it changes nothing", x.digest(), before);
        for (int ride = 0; ride < 8; ride++) x.ridden(ride, 1000 * ride);
        for (int b = 0; b < 12; b++) x.lead(b, 7);
        for (int p = 0; p < 7; p++) x.hay(p, 0);
        Due.holds("31 all is otherwise", x.digest() != before);
        Due.is("32 twelve", x.restore(), 12);
        Due.is("32 all as it was", x.digest(), before);
        Due.is("32 once more", x.restore(), 12);
        Due.is("32 all as it was", x.digest(), before);
    }

    private static void imageKeepsNoMore() {
        FreshHorses x = Due.ready();
        x.beast(0, 0, 4, 0);
        x.image();
        Due.sort(x, "12:1,1,1;0,0,0");
        x.beast(1, 1, 12, 0);
        x.ride(0, 0);
        Due.tell(x, "oooooo");
        x.set(0, 0, 0);
        x.fewest(0, 0, 0);
        Due.write(x, "abc");
        Due.is("32 BEASTS", x.restore(), 1);
        int[] due = {2, 1, 2, 0, 3, 0, 1, 1, 1};
        for (int what = 0; what < 9; what++) Due.is("32 all else stays, count " + what, x.count(what), due[what]);
        Due.is("32 the next BEAST has its number again", x.beast(1, 2, 3, 4), 1);
        Due.is("14 and is as told", x.about(1, 1), 2);
    }

    private static void theLatest() {
        FreshHorses x = Due.ready();
        x.beast(0, 0, 4, 0);
        Due.is("31 one", x.image(), 1);
        x.beast(0, 1, 4, 0);
        Due.is("31 two", x.image(), 2);
        x.beast(0, 2, 4, 0);
        Due.is("32 the latest alone is kept", x.restore(), 2);
        Due.is("32 once more", x.restore(), 2);
        x.lead(1, 3);
        Due.is("31 the same many", x.image(), 2);
        x.lead(1, 0);
        x.restore();
        Due.is("32 the latest", x.about(1, 1), 3);
        x.ride(0, 2);
        x.ridden(0, 0);
        x.image();
        x.lead(0, 1);
        x.restore();
        Due.is("32 a LOST one is LOST again", x.about(0, 1), NONE);
        Due.is("33 LOST", x.count(5), 1);
    }

    private static void noneKept() {
        FreshHorses bare = new FreshHorses();
        Due.refused(bare, "32 none was kept, no ROAD", STATE, bare::restore);
        FreshHorses x = Due.ready();
        x.beast(0, 0, 4, 0);
        Due.refused(x, "32 none was kept", STATE, x::restore);
    }

    private static void anotherRoad() {
        FreshHorses x = Due.ready();
        x.beast(0, 0, 4, 0);
        x.image();
        Due.write(x, "f");
        x.road();
        Due.is("32 one that was refused is none", x.restore(), 1);
        x.blank();
        Due.road(x, Due.ROAD);
        Due.refused(x, "32 another ROAD since, of the same text", STATE, x::restore);
        Due.road(x, "f1");
        Due.refused(x, "32 two since", STATE, x::restore);
        Due.is("31 a new one", x.image(), 0);
        Due.is("32 a new one", x.restore(), 0);
        FreshHorses y = new FreshHorses();
        y.letter(9);
        Due.is("31 without a ROAD", y.image(), 0);
        y.letter(10);
        Due.is("32 without a ROAD", y.restore(), 0);
        Due.is("32 its LETTERS", y.count(3), 1);
        Due.road(y, "f1");
        Due.refused(y, "32 there is a ROAD since", STATE, y::restore);
    }

    // ---- counts

    private static void countEdges() {
        FreshHorses x = Due.ready();
        for (int bad : new int[] {-1, 9, 10, Integer.MIN_VALUE, Integer.MAX_VALUE}) {
            Due.refused(x, "33 what " + bad, OUTSIDE, () -> x.count(bad));
        }
        Due.is("33 the last what", x.count(8), 0);
    }

    private static void countsOfAll() {
        FreshHorses x = most();
        int[] due = {4, 12, 8, 10, 90, 0, 1, 0, 0};
        for (int what = 0; what < 9; what++) Due.is("33 of all, " + what, x.count(what), due[what]);
        FreshHorses y = Due.ready();
        Due.sort(y, "1:1,1,1;1,1,1");
        Due.road(y, "f2");
        y.ride(0, 0);
        for (int b = 1; b <= 12; b++) {
            y.beast(1, 0, 1, 0);
            y.ridden(0, 0);
            Due.is("33 LOST", y.count(5), b);
        }
        Due.is("33 twelve are LOST", y.count(1), 12);
        y.lead(4, 0);
        Due.is("33 eleven are", y.count(5), 11);
    }

    // ---- digest

    /** Worked out without wrapping, then cut to 64 bits. */
    private static long cut(List<Integer> numbers) {
        BigInteger h = BigInteger.valueOf(389);
        for (int n : numbers) h = h.multiply(BigInteger.valueOf(31)).add(BigInteger.valueOf(n));
        return h.longValue();
    }

    private static List<Integer> numbersOf(FreshHorses x, int[] kinds, int[] ns, int[] letters, String page) {
        List<Integer> all = new ArrayList<>();
        boolean road = x.roadTold(0) != STATE;
        if (road) {
            int miles = x.roadTold(0);
            int places = x.roadTold(1);
            all.addAll(List.of(miles, places));
            for (int p = 0; p < places; p++) all.add(x.roadTold(10 + p));
            for (int i = 0; i < miles; i++) all.add(x.roadTold(30 + i));
            for (int p = 0; p < places - 1; p++) {
                all.add(x.hay(p, 0));
                x.hay(p, all.get(all.size() - 1));
            }
        }
        for (int s = 0; s < x.count(0); s++) {
            for (int what = 0; what < 7; what++) all.add(x.sortTold(s, what));
        }
        for (int b = 0; b < x.count(1); b++) {
            for (int what = 0; what < 4; what++) all.add(x.about(b, what));
        }
        for (int r = 0; r < x.count(2); r++) {
            all.add(kinds[r]);
            all.add(ns[r]);
            if (road) all.add(x.tried(r, 100));
        }
        for (int minute : letters) all.add(minute);
        for (int i = 0; i < page.length(); i++) all.add((int) page.charAt(i));
        for (int what = 0; what < 9; what++) all.add(x.count(what));
        return all;
    }

    private static void digestOfNothing() {
        FreshHorses x = new FreshHorses();
        Due.is("34 389 and nine times 0", x.digest(), cut(List.of(0, 0, 0, 0, 0, 0, 0, 0, 0)));
        x.letters('a');
        Due.is("34 a letter", x.digest(), cut(List.of(97, 0, 0, 0, 0, 1, 0, 0, 0, 0)));
        x.letter(5);
        Due.is("34 a LETTER ahead of it", x.digest(), cut(List.of(5, 97, 0, 0, 0, 1, 1, 0, 0, 0, 0)));
        x.ride(1, 7);
        Due.is("34 a RIDE without a ROAD", x.digest(), cut(List.of(1, 7, 5, 97, 0, 0, 1, 1, 1, 0, 0, 0, 0)));
        x.blank();
        Due.tell(x, "w");
        Due.is("34 a TOLD without a ROAD", x.digest(), cut(List.of(1, 7, 5, 0, 5, 0, 0, 2, 1, 0, 0, 0, 0, 0)));
    }

    private static void digestOfAll() {
        FreshHorses x = most();
        int[] kinds = {0, 1, 2, 3, 4, 0, 1, 5};
        int[] ns = {2, 26, 0, 0, 12, 1, 13, 0};
        int[] letters = new int[10];
        for (int l = 0; l < 10; l++) letters[l] = 1111 * l;
        List<Integer> all = numbersOf(x, kinds, ns, letters, "~".repeat(90));
        Due.is("34 how many", all.size(), 2 + 8 + 24 + 7 + 28 + 48 + 24 + 10 + 90 + 9);
        Due.is("34 of all, wrapping", x.digest(), cut(all));
        x.ridden(0, 9999);
        Due.is("34 with BEASTS behind the last minute", x.digest(), cut(numbersOf(x, kinds, ns, letters, "~".repeat(90))));
        Due.is("34 it changes nothing", x.digest(), x.digest());
    }

    private static void digestInOrder() {
        FreshHorses x = new FreshHorses();
        Due.road(x, "s1*h1");
        Due.sort(x, "2:30,20,10;0,1,2");
        x.beast(0, 1, 1, 33);
        x.hay(1, 44);
        x.ride(4, 1);
        Due.tell(x, "c9w");
        x.letter(66);
        x.letters(Due.word("bc"));
        x.set(0, 0, 0);
        x.fewest(0, 0, 0);
        x.fewest(0, 0, 0);
        List<Integer> all = new ArrayList<>(List.of(2, 3, 0, 1, 2, 2, 1, 0, 44));
        all.addAll(List.of(2, 30, 20, 10, 0, 1, 2));
        all.addAll(List.of(0, 1, 1, 33));
        // at 100 the BEAST has 2: a TROT on the HILL would leave 0, and a WALK is slower than ON FOOT
        all.addAll(List.of(4, 1, 50, 5, 0, STATE));
        all.addAll(List.of(66, 98, 99));
        all.addAll(List.of(1, 1, 2, 1, 2, 0, 1, 1, 2));
        Due.is("34 in order", x.digest(), cut(all));
    }

    /** Each thing that can be otherwise is seen in it. */
    private static void digestOfEachNumber() {
        FreshHorses x = most();
        long before = x.digest();
        for (int p = 0; p < 7; p++) {
            int had = x.hay(p, 1);
            Due.holds("34 HAY of " + p, x.digest() != before);
            x.hay(p, had);
        }
        for (int b = 0; b < 12; b++) {
            int was = x.lead(b, 7);
            Due.holds("34 PLACE of " + b, x.digest() != before);
            x.lead(b, was);
        }
        Due.is("34 all as before", x.digest(), before);
    }

    private static void twoObjects() {
        FreshHorses x = most();
        FreshHorses y = most();
        long before = y.digest();
        Due.is("34 the same calls, the same digest", x.digest(), before);
        x.image();
        for (int b = 0; b < 12; b++) x.lead(b, 7);
        for (int ride = 0; ride < 8; ride++) x.ridden(ride, 0);
        Due.is("1 one object does not change another", y.digest(), before);
        Due.refused(y, "32 nor keeps an IMAGE for it", STATE, y::restore);
    }
}
