/** Promises 28 to 30, sentence by sentence: LETTERS, A DAY, FEWEST at their edges. */
public final class LetterEdgesTest {
    private static final int OUTSIDE = FreshHorses.OUTSIDE, STATE = FreshHorses.STATE, UNKNOWN = FreshHorses.UNKNOWN;
    private static final int FULL = FreshHorses.FULL, NONE = FreshHorses.NONE;
    private static final int[] FAR_OFF = {-1, Integer.MIN_VALUE, Integer.MAX_VALUE};
    private static final int[] NO_MINUTES = {-1, 10000, Integer.MIN_VALUE, Integer.MAX_VALUE};

    public static void main(String[] args) {
        lettersUpToTen();
        lettersDoNotFall();
        letterEdges();
        dayWithoutLetters();
        dayOfTen();
        dayNotYetBack();
        dayRestedBetween();
        dayLost();
        dayTold();
        dayAsRidden();
        dayEdges();
        fewestByPlaces();
        fewestTwelve();
        fewestOfFreshOnes();
        fewestLimits();
        fewestWithoutLetters();
        fewestOfKinds();
        fewestEdges();
        fewestTenTimes();
        Due.end();
    }

    private static FreshHorses on(String road, String... sorts) {
        FreshHorses x = new FreshHorses();
        Due.is("5 " + road, Math.min(Due.road(x, road), 2), 2);
        for (int s = 0; s < sorts.length; s++) Due.is("6 " + sorts[s], Due.sort(x, sorts[s]), s);
        return x;
    }

    // ---- LETTERS

    private static void lettersUpToTen() {
        FreshHorses x = Due.ready();
        for (int i = 1; i <= 10; i++) Due.is("28 how many", x.letter(100), i);
        Due.refused(x, "28 an eleventh", FULL, () -> x.letter(100));
        Due.refused(x, "28 an eleventh, later", FULL, () -> x.letter(9999));
        Due.refused(x, "28 minute ahead of FULL", OUTSIDE, () -> x.letter(10000));
        Due.refused(x, "28 ahead of the last one, ahead of FULL", OUTSIDE, () -> x.letter(99));
        Due.road(x, "f1");
        Due.is("28 the first of another ROAD", x.letter(0), 1);
    }

    private static void lettersDoNotFall() {
        FreshHorses x = Due.ready();
        Due.is("28 the first", x.letter(500), 1);
        Due.refused(x, "28 a minute ahead of it", OUTSIDE, () -> x.letter(499));
        Due.refused(x, "28 minute 0", OUTSIDE, () -> x.letter(0));
        Due.is("28 the same minute", x.letter(500), 2);
        Due.is("28 a minute later", x.letter(501), 3);
        Due.refused(x, "28 ahead of the last, not of the first", OUTSIDE, () -> x.letter(500));
        Due.is("28 the last minute", x.letter(9999), 4);
        Due.is("28 the last minute again", x.letter(9999), 5);
    }

    private static void letterEdges() {
        FreshHorses x = new FreshHorses();
        for (int bad : NO_MINUTES) Due.refused(x, "28 minute " + bad, OUTSIDE, () -> x.letter(bad));
        Due.is("28 the first minute, without a ROAD", x.letter(0), 1);
        Due.is("33 it counts", x.count(3), 1);
    }

    // ---- A DAY

    private static void dayIs(String name, FreshHorses x, int ride, int together, int slowest, int lost) {
        int[] due = {together, slowest, lost};
        long before = x.digest();
        for (int what = 0; what < 3; what++) Due.is("29 " + name + ", what " + what, x.day(ride, what), due[what]);
        Due.is("29 " + name + ", nothing stays", x.digest(), before);
    }

    private static void dayWithoutLetters() {
        FreshHorses x = Due.ready();
        for (int kind = 0; kind < 5; kind++) {
            x.ride(kind, 0);
            dayIs("no LETTERS", x, kind, 0, 0, 0);
        }
        Due.tell(x, "w");
        dayIs("no LETTERS: no TOLD fails", x, 5, 0, 0, 0);
        x.ride(0, 2);
        x.beast(0, 0, 4, 0);
        x.ridden(6, 0);
        dayIs("no LETTERS, one LOST ahead of it", x, 6, 0, 0, 1);
    }

    private static void dayOfTen() {
        FreshHorses x = Due.ready();
        x.ride(0, 0);
        for (int i = 1; i <= 10; i++) {
            x.letter(9999);
            dayIs("LETTERS " + i, x, 0, 150 * i, 150, 0);
        }
        FreshHorses y = on("f9f9f6");
        y.ride(3, 0);
        for (int i = 0; i < 10; i++) y.letter(i);
        dayIs("the longest of all", y, 0, 6000, 600, 0);
    }

    /** A BEAST that is not yet back has what it had when it was left, where it was left. */
    private static void dayNotYetBack() {
        FreshHorses x = on("f1*f1", "12:20,10,5;1,1,1");
        x.ride(0, 0);
        x.beast(0, 0, 3, 9999);
        x.letter(100);
        x.letter(100);
        dayIs("at once", x, 0, 40 + 50, 50, 0);
        FreshHorses y = on("f1*f1", "1:20,10,5;1,1,1", "2:20,10,5;1,1,1");
        y.ride(0, 0);
        y.beast(0, 0, 1, 9999);
        y.beast(1, 1, 2, 9999);
        y.lead(1, 0);
        y.letter(100);
        dayIs("the stronger goes", y, 0, 40, 40, 0);
        y.lead(1, 1);
        dayIs("both go", y, 0, 40, 40, 0);
        y.letter(119);
        dayIs("BEAST 0 is left at 120 with 0, ahead of the second", y, 0, 40 + 50, 50, 0);
        FreshHorses z = on("f1*f1", "3:20,10,5;1,1,1", "4:20,10,5;1,1,1");
        z.ride(0, 0);
        z.beast(0, 0, 3, 9999);
        z.beast(1, 1, 4, 9999);
        z.letter(100);
        z.letter(101);
        dayIs("BEAST 0 is at PLACE 1 with 2, though it is left at 120", z, 0, 40 + 45, 45, 0);
    }

    private static void dayRestedBetween() {
        FreshHorses x = on("f1*f1", "1:20,10,5;1,1,1", "2:20,10,5;1,1,1");
        x.ride(0, 0);
        x.beast(0, 0, 1, 9999);
        x.beast(1, 1, 2, 9999);
        x.letter(100);
        x.image();
        x.letter(149);
        dayIs("29 minutes behind", x, 0, 40 + 50, 50, 0);
        x.restore();
        x.letter(150);
        dayIs("30 minutes behind", x, 0, 40 + 45, 45, 0);
    }

    private static void dayLost() {
        FreshHorses x = on("f2", "1:5,5,5;1,1,1");
        x.ride(0, 0);
        x.ride(3, 0);
        for (int b = 0; b < 3; b++) x.beast(0, 0, 1, 0);
        for (int i = 1; i <= 5; i++) {
            x.letter(0);
            int lost = Math.min(i, 3);
            dayIs("LOST one by one", x, 0, 30 * lost + 50 * (i - lost), i > 3 ? 50 : 30, lost);
            dayIs("a BEST loses none", x, 1, 50 * i, 50, 0);
        }
        Due.is("33 none is LOST of it", x.count(5), 0);
        x.ridden(0, 0);
        dayIs("LOST ahead of it, too", x, 1, 250, 50, 1);
    }

    private static void dayTold() {
        FreshHorses x = on("f1", "2:5,5,5;1,1,1");
        Due.tell(x, "c0w");
        Due.tell(x, "o");
        Due.tell(x, "oo");
        x.beast(0, 0, 2, 0);
        dayIs("no LETTERS", x, 0, 0, 0, 0);
        dayIs("no LETTERS: even if it could never be", x, 2, 0, 0, 0);
        x.letter(0);
        dayIs("the first can be", x, 0, 5, 5, 0);
        x.letter(0);
        for (int what = 0; what < 3; what++) {
            int w = what;
            Due.refused(x, "29 the second fails", STATE, () -> x.day(0, w));
            Due.refused(x, "29 the first fails", STATE, () -> x.day(2, w));
        }
        dayIs("ON FOOT it never fails", x, 1, 50, 25, 0);
        Due.refused(x, "29 what ahead of a TOLD that fails", OUTSIDE, () -> x.day(0, 3));
        Due.is("14 the BEAST stands as before", x.about(0, 1), 0);
    }

    /** A DAY beside the same LETTERS by ridden(). */
    private static void dayAsRidden() {
        int[] minutes = {0, 0, 31, 60, 90, 200, 201, 9990, 9999, 9999};
        for (int kind = 0; kind < 5; kind++) {
            FreshHorses x = Due.ready();
            x.ride(kind, kind == 0 ? 2 : 0);
            for (int b = 0; b < 9; b++) x.beast(0, b % 3, b % 5, 40 * b);
            for (int minute : minutes) x.letter(minute);
            int[] day = {x.day(0, 0), x.day(0, 1), x.day(0, 2)};
            x.image();
            int together = 0;
            int slowest = 0;
            for (int minute : minutes) {
                int took = x.ridden(0, minute);
                together += took;
                slowest = Math.max(slowest, took);
            }
            Due.is("29 together, KIND " + kind, day[0], together);
            Due.is("29 the slowest, KIND " + kind, day[1], slowest);
            Due.is("29 LOST, KIND " + kind, day[2], x.count(5));
            x.restore();
            Due.is("29 again, KIND " + kind, x.day(0, 0), together);
        }
    }

    private static void dayEdges() {
        FreshHorses x = new FreshHorses();
        Due.refused(x, "29 no RIDES", UNKNOWN, () -> x.day(0, 0));
        x.ride(0, 0);
        x.letter(0);
        Due.refused(x, "29 no ROAD", STATE, () -> x.day(0, 0));
        Due.refused(x, "29 UNKNOWN ahead of no ROAD", UNKNOWN, () -> x.day(1, 0));
        Due.refused(x, "29 no ROAD ahead of what", STATE, () -> x.day(0, 3));
        Due.road(x, "f1");
        Due.refused(x, "29 what 3", OUTSIDE, () -> x.day(0, 3));
        Due.refused(x, "29 UNKNOWN ahead of OUTSIDE", UNKNOWN, () -> x.day(1, 3));
        for (int bad : FAR_OFF) {
            Due.refused(x, "29 RIDE " + bad, UNKNOWN, () -> x.day(bad, 0));
            Due.refused(x, "29 what " + bad, OUTSIDE, () -> x.day(0, bad));
        }
    }

    // ---- FEWEST

    /** Each LETTER needs one BEAST of its own at each PLACE, as all come at once. */
    private static void fewestByPlaces() {
        int[] most = {0, 0, 4, 4, 4, 3, 2, 2, 1};
        for (int places = 2; places <= 8; places++) {
            FreshHorses x = on("f1*".repeat(places - 1), "1:5,5,5;1,1,1");
            x.ride(0, 0);
            for (int letters = 1; letters <= 5; letters++) {
                x.letter(0);
                int due = letters <= most[places] ? letters : NONE;
                Due.is("30 " + letters + " LETTERS over " + places + " PLACES", x.fewest(0, 0, 5 * (places - 1)), due);
            }
        }
    }

    /** BEASTS of PLACE 0 alone would do, but as many would stand at each PLACE: more than twelve are too many. */
    private static void fewestTwelve() {
        int[] most = {0, 0, 4, 4, 4, 3, 2, 2, 1};
        for (int places = 2; places <= 8; places++) {
            FreshHorses x = on("f1*".repeat(places - 1), "12:5,5,5;0,0,0");
            x.ride(0, 0);
            for (int letters = 1; letters <= 5; letters++) {
                x.letter(0);
                int due = letters <= most[places] ? letters : NONE;
                Due.is("30 twelve at most: " + letters + " over " + places, x.fewest(0, 0, 5 * (places - 1)), due);
            }
        }
    }

    private static void fewestOfFreshOnes() {
        FreshHorses x = on("f1*f1", "1:5,5,5;1,1,1", "12:1,1,1;0,0,0");
        x.ride(0, 0);
        for (int i = 0; i < 4; i++) x.beast(1, i % 2, 12, 0);
        x.letter(0);
        x.letter(0);
        long before = x.digest();
        Due.is("30 no others", x.fewest(0, 0, 9), NONE);
        Due.is("30 fresh ones of that SORT", x.fewest(0, 0, 10), 2);
        Due.is("30 none comes back from THE END", x.fewest(1, 0, 2), 2);
        Due.is("30 nothing stays but its count", x.digest() - before, 3);
        Due.is("33 BEASTS stay", x.count(1), 4);
        Due.is("33 LETTERS stay", x.count(3), 2);
    }

    private static void fewestLimits() {
        FreshHorses x = on("f1", "12:5,5,5;0,0,0");
        x.ride(0, 0);
        x.letter(0);
        Due.is("30 no more than LIMIT", x.fewest(0, 0, 5), 1);
        Due.is("30 one more", x.fewest(0, 0, 4), NONE);
        x.letter(0);
        Due.is("30 the slowest of all LETTERS, two", x.fewest(0, 0, 24), 2);
        Due.is("30 the slowest of all LETTERS, one", x.fewest(0, 0, 25), 1);
        for (int i = 0; i < 3; i++) x.letter(0);
        Due.is("30 none", x.fewest(0, 0, 24), NONE);
        Due.is("30 any", x.fewest(0, 0, 9999), 1);
        Due.is("30 a LIMIT of 0", x.fewest(0, 0, 0), NONE);
    }

    private static void fewestWithoutLetters() {
        FreshHorses x = on("f9f9f6", "1:30,30,30;9,9,9");
        x.ride(3, 0);
        Due.is("30 no LETTERS, a LIMIT of 0", x.fewest(0, 0, 0), 1);
        x.letter(0);
        Due.is("30 600 MINUTES ON FOOT", x.fewest(0, 0, 599), NONE);
        Due.is("30 600 MINUTES just so", x.fewest(0, 0, 600), 1);
    }

    private static void fewestOfKinds() {
        FreshHorses x = on("f2", "2:10,5,5;1,1,2");
        int[] n = {0, 0, 0, 0, 1};
        int[] due = {20, 20, 10, 10, 50};
        for (int kind = 0; kind < 5; kind++) {
            x.ride(kind, n[kind]);
            if (kind == 0) x.letter(0);
            Due.is("30 KIND " + kind, x.fewest(0, kind, due[kind]), 1);
            Due.is("30 KIND " + kind + ", one less", x.fewest(0, kind, due[kind] - 1), NONE);
        }
    }

    private static void fewestEdges() {
        FreshHorses x = new FreshHorses();
        x.ride(0, 0);
        Due.refused(x, "30 no SORTS", UNKNOWN, () -> x.fewest(0, 0, 0));
        Due.sort(x, Due.SORT);
        Due.tell(x, "o");
        Due.refused(x, "30 no ROAD", STATE, () -> x.fewest(0, 0, 0));
        Due.refused(x, "30 no ROAD ahead of limit", STATE, () -> x.fewest(0, 0, -1));
        Due.refused(x, "30 SORT ahead of no ROAD", UNKNOWN, () -> x.fewest(1, 0, 0));
        Due.refused(x, "30 RIDE ahead of no ROAD", UNKNOWN, () -> x.fewest(0, 2, 0));
        Due.road(x, "f1");
        Due.refused(x, "30 TOLD", STATE, () -> x.fewest(0, 1, 0));
        Due.refused(x, "30 TOLD ahead of limit", STATE, () -> x.fewest(0, 1, 10000));
        Due.refused(x, "30 SORT ahead of TOLD", UNKNOWN, () -> x.fewest(1, 1, 0));
        Due.refused(x, "30 RIDE 2", UNKNOWN, () -> x.fewest(0, 2, 0));
        for (int bad : NO_MINUTES) {
            Due.refused(x, "30 LIMIT " + bad, OUTSIDE, () -> x.fewest(0, 0, bad));
            Due.refused(x, "30 SORT ahead of limit", UNKNOWN, () -> x.fewest(1, 0, bad));
            Due.refused(x, "30 RIDE ahead of limit", UNKNOWN, () -> x.fewest(0, 2, bad));
        }
        for (int bad : FAR_OFF) {
            Due.refused(x, "30 SORT " + bad, UNKNOWN, () -> x.fewest(bad, 0, 0));
            Due.refused(x, "30 RIDE " + bad, UNKNOWN, () -> x.fewest(0, bad, 0));
        }
        Due.is("33 refused ones are not counted", x.count(8), 0);
    }

    private static void fewestTenTimes() {
        FreshHorses x = Due.ready();
        x.ride(0, 0);
        Due.tell(x, "oooooo");
        x.letter(0);
        for (int i = 0; i < 10; i++) Due.is("30 done, whether there is one or none", x.fewest(0, 0, i % 2 == 0 ? 63 : 62), i % 2 == 0 ? 1 : NONE);
        Due.is("33 ten", x.count(8), 10);
        Due.refused(x, "30 one more", STATE, () -> x.fewest(0, 0, 63));
        Due.refused(x, "30 limit ahead of it", OUTSIDE, () -> x.fewest(0, 0, 10000));
        Due.refused(x, "30 SORT ahead of it", UNKNOWN, () -> x.fewest(1, 0, 63));
        Due.refused(x, "30 RIDE ahead of it", UNKNOWN, () -> x.fewest(0, 2, 63));
        x.image();
        x.restore();
        Due.refused(x, "30 an IMAGE does not help", STATE, () -> x.fewest(0, 0, 63));
        Due.road(x, "f1");
        Due.refused(x, "30 nor another ROAD", STATE, () -> x.fewest(0, 0, 63));
        Due.is("23 set() goes on", x.set(0, 0, 1), 3);
    }
}
