/** Promises 23 to 27, sentence by sentence: SET, GAP, MISSED, HAY, SHUT at their edges. */
public final class StableEdgesTest {
    private static final int OUTSIDE = FreshHorses.OUTSIDE, STATE = FreshHorses.STATE, UNKNOWN = FreshHorses.UNKNOWN;
    private static final int[] FAR_OFF = {-1, Integer.MIN_VALUE, Integer.MAX_VALUE};
    private static final int[] NO_MINUTES = {-1, 10000, Integer.MIN_VALUE, Integer.MAX_VALUE};
    private static final String EIGHT = "f1*f1*f1*f1*f1*f1*f1*";

    public static void main(String[] args) {
        setOfNoneAndAll();
        setOfFreshOnes();
        setNoOthers();
        setLeastBits();
        setEdges();
        gapFresh();
        gapWithoutStop();
        gapEdges();
        missedNone();
        missedMost();
        missedAtTheMinute();
        missedEdges();
        hayEdges();
        shutForNothing();
        shutLeastBits();
        shutEmptyPlaces();
        shutAtTheMinute();
        shutDearest();
        shutEdges();
        twentyTogether();
        Due.end();
    }

    private static FreshHorses on(String road, String... sorts) {
        FreshHorses x = new FreshHorses();
        Due.is("5 " + road, Math.min(Due.road(x, road), 2), 2);
        for (int s = 0; s < sorts.length; s++) Due.is("6 " + sorts[s], Due.sort(x, sorts[s]), s);
        return x;
    }

    // ---- SET

    private static void setIs(String name, FreshHorses x, int sort, int k, int bits, int minutes) {
        long before = x.digest();
        Due.is("23 " + name + ", PLACES", x.set(sort, k, 0), bits);
        Due.is("23 " + name + ", MINUTES", x.set(sort, k, 1), minutes);
        Due.is("23 " + name + ", counted", x.digest() - before, 2 * 31);
    }

    private static void setOfNoneAndAll() {
        FreshHorses x = on("f1", "1:9,9,5;1,1,1");
        setIs("none of two PLACES", x, 0, 0, 0, 5);
        FreshHorses y = on(EIGHT, "1:9,9,5;1,1,1");
        setIs("none of eight: one at PLACE 0", y, 0, 0, 0, 5 + 6 * 25);
        setIs("one of eight", y, 0, 1, 2, 10 + 5 * 25);
        setIs("five of eight", y, 0, 5, 62, 30 + 25);
        setIs("all of eight, not 0, not THE END", y, 0, 6, 126, 35);
        Due.refused(y, "23 one more", OUTSIDE, () -> y.set(0, 7, 0));
        FreshHorses z = on("f1*f1", "1:9,9,5;1,1,1");
        setIs("none of three", z, 0, 0, 0, 30);
        setIs("one of three", z, 0, 1, 2, 10);
        Due.refused(z, "23 two of three", OUTSIDE, () -> z.set(0, 2, 0));
    }

    private static void setOfFreshOnes() {
        for (int strength = 1; strength <= 4; strength++) {
            FreshHorses x = on("f4", strength + ":25,25,5;1,1,1");
            setIs("fresh ones of STRENGTH " + strength, x, 0, 0, 0, strength < 4 ? 100 : 20);
        }
        FreshHorses x = on("f2*f2", "2:9,9,5;1,1,1", "3:20,20,1;1,1,1", "4:24,24,4;1,1,1");
        setIs("of that SORT, 0", x, 0, 0, 0, 10 + 50);
        setIs("of that SORT, 1", x, 1, 0, 0, 2 + 50);
        setIs("of that SORT, 2", x, 2, 0, 0, 16);
    }

    private static void setNoOthers() {
        FreshHorses x = on("f1*f1*f1", "1:9,9,5;1,1,1", "12:1,1,1;0,0,0");
        x.beast(1, 0, 12, 0);
        x.beast(1, 2, 12, 0);
        setIs("no others", x, 0, 1, 2, 35);
        Due.is("33 the BEASTS are there still", x.count(1), 2);
        Due.is("14 as before", x.about(1, 1), 2);
    }

    private static void setLeastBits() {
        FreshHorses x = on("f1*f1*f1*f1*", "1:25,25,25;0,0,0");
        int[] least = {0, 2, 6, 14};
        for (int k = 0; k < 4; k++) setIs("like ones of " + k, x, 0, k, least[k], 100);
        FreshHorses y = on("f1*f2*f1", "1:9,9,5;1,1,1");
        setIs("the second is no use", y, 0, 1, 4, 60);
        FreshHorses z = on("f1*f1*f1*f1", "1:9,9,5;1,1,1");
        setIs("of like ones the least", z, 0, 2, 6, 40);
    }

    private static void setEdges() {
        FreshHorses x = new FreshHorses();
        Due.refused(x, "23 no SORTS", UNKNOWN, () -> x.set(0, 0, 0));
        Due.sort(x, Due.SORT);
        Due.refused(x, "23 no ROAD", STATE, () -> x.set(0, 0, 0));
        Due.refused(x, "23 UNKNOWN ahead of no ROAD", UNKNOWN, () -> x.set(1, 0, 0));
        Due.refused(x, "23 no ROAD ahead of k", STATE, () -> x.set(0, -1, 0));
        Due.refused(x, "23 no ROAD ahead of what", STATE, () -> x.set(0, 0, 2));
        Due.road(x, Due.ROAD);
        Due.refused(x, "23 k 3 of four PLACES", OUTSIDE, () -> x.set(0, 3, 0));
        Due.refused(x, "23 what 2", OUTSIDE, () -> x.set(0, 2, 2));
        Due.refused(x, "23 UNKNOWN ahead of OUTSIDE", UNKNOWN, () -> x.set(1, 3, 2));
        for (int bad : FAR_OFF) {
            Due.refused(x, "23 SORT " + bad, UNKNOWN, () -> x.set(bad, 0, 0));
            Due.refused(x, "23 k " + bad, OUTSIDE, () -> x.set(0, bad, 0));
            Due.refused(x, "23 what " + bad, OUTSIDE, () -> x.set(0, 0, bad));
        }
        Due.is("33 none was done", x.count(7), 0);
    }

    // ---- GAP

    private static void gapFresh() {
        for (int strength = 1; strength <= 12; strength++) {
            FreshHorses x = on("f9f9", strength + ":9,9,9;1,2,3");
            x.beast(0, 0, 0, 9999);
            for (int pace = 0; pace < 3; pace++) {
                Due.is("24 STRENGTH " + strength + " at PACE " + pace, x.gap(0, 0, pace), strength / (pace + 1));
            }
        }
        FreshHorses y = on("f1", "8:9,9,9;9,8,0");
        Due.is("24 it cannot do a MILE", y.gap(0, 0, 0), 0);
        Due.is("24 it can do one just so", y.gap(0, 0, 1), 1);
        Due.is("24 all of them", y.gap(0, 0, 2), 1);
    }

    private static void gapWithoutStop() {
        FreshHorses x = on("f1*h1*s1*f1", "4:9,9,9;0,1,2");
        int[][] due = {{4, 2, 1}, {3, 2, 1}, {2, 2, 1}, {1, 1, 1}, {0, 0, 0}};
        for (int p = 0; p < 5; p++) {
            for (int pace = 0; pace < 3; pace++) Due.is("24 from " + p + " at " + pace, x.gap(0, p, pace), due[p][pace]);
        }
        FreshHorses y = on("f9h9f6", "1:9,9,9;0,0,0");
        Due.is("24 24 MILES", y.gap(0, 0, 0), 24);
        Due.is("24 a TROT on HILL", y.gap(0, 0, 1), 10);
        Due.is("24 0 from THE END", y.gap(0, 1, 0), 0);
    }

    private static void gapEdges() {
        FreshHorses x = new FreshHorses();
        Due.refused(x, "24 no SORTS", UNKNOWN, () -> x.gap(0, 0, 0));
        Due.sort(x, Due.SORT);
        Due.refused(x, "24 no ROAD", STATE, () -> x.gap(0, 0, 0));
        Due.refused(x, "24 UNKNOWN ahead of no ROAD", UNKNOWN, () -> x.gap(1, 0, 0));
        Due.refused(x, "24 no ROAD ahead of place", STATE, () -> x.gap(0, -1, 0));
        Due.refused(x, "24 no ROAD ahead of pace", STATE, () -> x.gap(0, 0, 3));
        Due.road(x, Due.ROAD);
        Due.is("24 THE END", x.gap(0, 3, 2), 0);
        Due.refused(x, "24 behind THE END", OUTSIDE, () -> x.gap(0, 4, 0));
        Due.refused(x, "24 PACE 3", OUTSIDE, () -> x.gap(0, 0, 3));
        Due.refused(x, "24 UNKNOWN ahead of OUTSIDE", UNKNOWN, () -> x.gap(1, 4, 3));
        for (int bad : FAR_OFF) {
            Due.refused(x, "24 SORT " + bad, UNKNOWN, () -> x.gap(bad, 0, 0));
            Due.refused(x, "24 PLACE " + bad, OUTSIDE, () -> x.gap(0, bad, 0));
            Due.refused(x, "24 PACE " + bad, OUTSIDE, () -> x.gap(0, 0, bad));
        }
    }

    // ---- MISSED

    private static void missedIs(String name, FreshHorses x, int minute, int place, int more) {
        long before = x.digest();
        Due.is("25 " + name + ", the PLACE", x.missed(minute, 0), place);
        Due.is("25 " + name + ", MINUTES more", x.missed(minute, 1), more);
        Due.is("25 " + name + ", nothing changes", x.digest(), before);
    }

    private static void missedNone() {
        FreshHorses x = on("f1*f1*f1", "1:9,9,5;1,1,1", "12:1,1,1;0,0,0");
        missedIs("no BEASTS: of like ones the least", x, 0, 0, 0);
        x.beast(1, 1, 12, 0);
        x.lead(0, 3);
        missedIs("one at THE END alone", x, 0, 0, 0);
        x.lead(0, 2);
        missedIs("one at the last PLACE ahead of it", x, 0, 2, 24);
    }

    private static void missedMost() {
        FreshHorses x = on("f1*f1*f1", "1:9,9,5;1,1,1");
        for (int p = 0; p < 3; p++) x.beast(0, p, 1, 0);
        missedIs("of like ones the least", x, 0, 0, 20);
        FreshHorses y = on("f1*f1*f2", "2:9,9,5;1,1,1");
        for (int p = 0; p < 3; p++) y.beast(0, p, 2, 0);
        missedIs("the last, for 0 and 1 stand in for one another", y, 0, 2, 40);
        y.beast(0, 2, 2, 0);
        missedIs("all BEASTS of it are not there", y, 0, 2, 40);
        FreshHorses z = on("f1*f1", "2:9,9,5;1,1,1");
        z.beast(0, 0, 2, 0);
        z.beast(0, 1, 2, 0);
        missedIs("PLACE 0, from which one could go on", z, 0, 0, 20);
    }

    private static void missedAtTheMinute() {
        FreshHorses x = on("f1*f1", "2:25,25,5;0,1,2", "2:25,25,10;0,1,1");
        x.beast(1, 0, 1, 9999);
        x.beast(0, 1, 1, 100);
        missedIs("at 129 the second has 1", x, 129, 0, 15);
        missedIs("at 130 it has 2", x, 130, 1, 20);
        Due.is("25 the last minute", x.missed(9999, 1), 20);
        Due.is("25 the first minute", x.missed(0, 1), 15);
    }

    private static void missedEdges() {
        FreshHorses bare = new FreshHorses();
        Due.refused(bare, "25 no ROAD", STATE, () -> bare.missed(0, 0));
        Due.refused(bare, "25 no ROAD ahead of minute", STATE, () -> bare.missed(-1, 0));
        Due.refused(bare, "25 no ROAD ahead of what", STATE, () -> bare.missed(0, 2));
        FreshHorses x = Due.ready();
        Due.refused(x, "25 what 2", OUTSIDE, () -> x.missed(0, 2));
        for (int bad : FAR_OFF) Due.refused(x, "25 what " + bad, OUTSIDE, () -> x.missed(0, bad));
        for (int bad : NO_MINUTES) Due.refused(x, "25 minute " + bad, OUTSIDE, () -> x.missed(bad, 0));
        for (int i = 0; i < 30; i++) Due.is("25 as often as wanted", x.missed(i, 1), 0);
        Due.is("33 it is not counted", x.count(7), 0);
    }

    // ---- HAY, SHUT

    private static void hayEdges() {
        FreshHorses bare = new FreshHorses();
        Due.refused(bare, "26 no ROAD", STATE, () -> bare.hay(0, 0));
        Due.refused(bare, "26 no ROAD ahead of place", STATE, () -> bare.hay(-1, 0));
        Due.refused(bare, "26 no ROAD ahead of v", STATE, () -> bare.hay(0, 1000));
        FreshHorses x = on(EIGHT);
        for (int p = 0; p < 7; p++) Due.is("26 0 at first", x.hay(p, 100 + p), 0);
        for (int p = 0; p < 7; p++) Due.is("26 each its own", x.hay(p, 999), 100 + p);
        for (int p = 0; p < 7; p++) Due.is("26 the most", x.hay(p, 0), 999);
        Due.is("26 none again", x.hay(3, 0), 0);
        Due.refused(x, "26 THE END", OUTSIDE, () -> x.hay(7, 0));
        Due.refused(x, "26 behind THE END", OUTSIDE, () -> x.hay(8, 0));
        Due.refused(x, "26 v 1000", OUTSIDE, () -> x.hay(0, 1000));
        for (int bad : FAR_OFF) {
            Due.refused(x, "26 PLACE " + bad, OUTSIDE, () -> x.hay(bad, 0));
            Due.refused(x, "26 v " + bad, OUTSIDE, () -> x.hay(0, bad));
        }
        FreshHorses y = on("f1");
        Due.is("26 PLACE 0 of two", y.hay(0, 1), 0);
        Due.refused(y, "26 THE END of two", OUTSIDE, () -> y.hay(1, 1));
    }

    private static void shutIs(String name, FreshHorses x, int minute, int price, int bits, int cost) {
        long before = x.digest();
        Due.is("27 " + name + ", PLACES", x.shut(minute, price, 0), bits);
        Due.is("27 " + name + ", together", x.shut(minute, price, 1), cost);
        Due.is("27 " + name + ", counted", x.digest() - before, 2 * 31);
    }

    private static void shutForNothing() {
        FreshHorses x = on("f1*f1*f1", "12:1,1,1;0,0,0");
        for (int p = 0; p < 3; p++) x.beast(0, p, 12, 0);
        shutIs("no HAY, a PRICE of 0: none", x, 0, 0, 0, 0);
        x.hay(0, 1);
        shutIs("PLACE 0 can be shut, too", x, 0, 0, 1, 0);
        x.hay(1, 1);
        x.hay(2, 999);
        shutIs("all of them", x, 0, 0, 7, 0);
        FreshHorses y = on("f1", "12:1,1,1;0,0,0");
        y.beast(0, 0, 12, 0);
        y.hay(0, 24);
        shutIs("of like ones of least bits: not shut", y, 0, 1, 0, 25);
        y.hay(0, 25);
        shutIs("by one more it is", y, 0, 1, 1, 25);
    }

    private static void shutLeastBits() {
        FreshHorses x = on("f1*f1", "1:5,5,5;1,1,1");
        x.beast(0, 0, 1, 0);
        x.beast(0, 1, 1, 0);
        x.hay(0, 20);
        x.hay(1, 20);
        shutIs("four like ones", x, 0, 1, 0, 50);
        x.hay(0, 21);
        x.hay(1, 21);
        shutIs("both", x, 0, 1, 3, 50);
        FreshHorses y = on("f1*f2", "2:5,5,5;1,1,1", "1:5,5,5;0,0,0");
        y.beast(1, 0, 1, 0);
        y.beast(0, 1, 2, 0);
        y.hay(0, 60);
        y.hay(1, 1);
        shutIs("one of two", y, 0, 1, 1, 36);
        y.hay(1, 40);
        shutIs("PLACE 0 and PLACE 1 alone are like", y, 0, 1, 1, 75);
    }

    private static void shutEmptyPlaces() {
        FreshHorses x = on("f1*f1*f1", "12:1,1,1;0,0,0");
        x.beast(0, 0, 12, 0);
        x.hay(0, 5);
        x.hay(2, 1);
        shutIs("HAY is paid without BEASTS, too, unless it is shut", x, 0, 1, 4, 8);
        x.hay(1, 7);
        shutIs("two without BEASTS", x, 0, 99, 6, 5 + 3 * 99);
        FreshHorses y = on(EIGHT);
        for (int p = 0; p < 7; p++) y.hay(p, 999);
        shutIs("no BEASTS: all seven", y, 0, 99, 127, 99 * 175);
        y.hay(6, 0);
        shutIs("no BEASTS: not the one without HAY", y, 0, 1, 63, 175);
    }

    private static void shutAtTheMinute() {
        FreshHorses x = on("f1", "1:9,9,5;1,1,1");
        x.beast(0, 0, 0, 9969);
        x.hay(0, 10);
        shutIs("it has no strength yet", x, 9998, 1, 1, 25);
        shutIs("it has at the last minute", x, 9999, 1, 0, 15);
        shutIs("the first minute", x, 0, 1, 1, 25);
    }

    private static void shutDearest() {
        FreshHorses x = on("f4*f4*f4*f4*f4*f3*f1", "12:24,24,24;0,0,0");
        x.beast(0, 0, 12, 0);
        for (int p = 1; p < 7; p++) x.hay(p, 999);
        shutIs("the dearest MINUTES", x, 0, 99, 126, 99 * 24 * 24);
        x.hay(0, 999);
        shutIs("HAY of one", x, 0, 99, 126, 999 + 99 * 24 * 24);
        FreshHorses y = on("f4*f4*f4*f4*f4*f3*f1", "4:30,30,1;9,9,1");
        for (int p = 0; p < 7; p++) {
            y.beast(0, p, 4, 0);
            y.hay(p, 999);
        }
        shutIs("all are worth it but the last, which the one ahead of it can do", y, 0, 99, 64, 6 * 999 + 99 * 24);
    }

    private static void shutEdges() {
        FreshHorses bare = new FreshHorses();
        Due.refused(bare, "27 no ROAD", STATE, () -> bare.shut(0, 0, 0));
        Due.refused(bare, "27 no ROAD ahead of minute", STATE, () -> bare.shut(-1, 0, 0));
        Due.refused(bare, "27 no ROAD ahead of price", STATE, () -> bare.shut(0, 100, 0));
        Due.refused(bare, "27 no ROAD ahead of what", STATE, () -> bare.shut(0, 0, 2));
        FreshHorses x = Due.ready();
        Due.is("27 a PRICE of 0", x.shut(0, 0, 1), 0);
        Due.is("27 a PRICE of 99", x.shut(9999, 99, 1), 99 * 150);
        Due.refused(x, "27 a PRICE of 100", OUTSIDE, () -> x.shut(0, 100, 0));
        Due.refused(x, "27 what 2", OUTSIDE, () -> x.shut(0, 0, 2));
        for (int bad : NO_MINUTES) Due.refused(x, "27 minute " + bad, OUTSIDE, () -> x.shut(bad, 0, 0));
        for (int bad : FAR_OFF) {
            Due.refused(x, "27 PRICE " + bad, OUTSIDE, () -> x.shut(0, bad, 0));
            Due.refused(x, "27 what " + bad, OUTSIDE, () -> x.shut(0, 0, bad));
        }
        Due.is("33 refused ones are not counted", x.count(7), 2);
    }

    private static void twentyTogether() {
        for (int sets = 0; sets <= 20; sets += 10) {
            FreshHorses x = Due.ready();
            for (int i = 0; i < sets; i++) Due.is("23 done", x.set(0, 1, i % 2), i % 2 == 0 ? 2 : 37);
            for (int i = sets; i < 20; i++) Due.is("27 done", x.shut(i, 1, i % 2), i % 2 == 0 ? 0 : 150);
            Due.is("33 twenty", x.count(7), 20);
            Due.refused(x, "23 one more", STATE, () -> x.set(0, 1, 0));
            Due.refused(x, "27 one more", STATE, () -> x.shut(0, 1, 0));
            Due.refused(x, "23 UNKNOWN ahead of it", UNKNOWN, () -> x.set(1, 1, 0));
            Due.refused(x, "23 k ahead of it", OUTSIDE, () -> x.set(0, 3, 0));
            Due.refused(x, "23 what ahead of it", OUTSIDE, () -> x.set(0, 1, 2));
            Due.refused(x, "27 minute ahead of it", OUTSIDE, () -> x.shut(10000, 1, 0));
            Due.refused(x, "27 price ahead of it", OUTSIDE, () -> x.shut(0, 100, 0));
            Due.refused(x, "27 what ahead of it", OUTSIDE, () -> x.shut(0, 1, 2));
            x.image();
            x.restore();
            Due.refused(x, "23 an IMAGE does not help", STATE, () -> x.set(0, 1, 0));
            Due.road(x, Due.ROAD);
            Due.refused(x, "27 nor another ROAD", STATE, () -> x.shut(0, 1, 0));
            Due.is("24 gap() goes on", x.gap(0, 3, 0), 0);
            Due.is("25 missed() goes on", x.missed(0, 0), 0);
        }
        FreshHorses y = Due.ready();
        for (int i = 0; i < 19; i++) y.set(0, 0, 0);
        Due.is("27 the twentieth", y.shut(0, 0, 0), 0);
        Due.refused(y, "27 the next", STATE, () -> y.shut(0, 0, 0));
    }
}
