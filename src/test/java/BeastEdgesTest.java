/** BEASTS, sentence by sentence (promises 13 to 16): the last that is allowed, the first that is not. */
public final class BeastEdgesTest {
    private static final int OUTSIDE = FreshHorses.OUTSIDE, STATE = FreshHorses.STATE, FULL = FreshHorses.FULL;
    private static final int UNKNOWN = FreshHorses.UNKNOWN, NONE = FreshHorses.NONE;
    private static final int[] FAR_OFF = {-1, Integer.MIN_VALUE, Integer.MAX_VALUE};

    public static void main(String[] args) {
        beastPlaces();
        beastStrengths();
        beastMinutes();
        upToTwelve();
        refusalsInOrder();
        aboutEdges();
        restedByTheHalfHour();
        notBehindSince();
        strengthAtMost();
        sinceBehindTheLastMinute();
        strengthEdges();
        ledTo();
        ledFromLost();
        leadEdges();
        Due.end();
    }

    private static void beastPlaces() {
        FreshHorses x = Due.ready();
        for (int p = 0; p < 3; p++) Due.is("13 PLACE " + p, x.beast(0, p, 0, 0), p);
        Due.refused(x, "13 THE END", OUTSIDE, () -> x.beast(0, 3, 0, 0));
        Due.refused(x, "13 behind THE END", OUTSIDE, () -> x.beast(0, 4, 0, 0));
        for (int bad : FAR_OFF) Due.refused(x, "13 PLACE " + bad, OUTSIDE, () -> x.beast(0, bad, 0, 0));
        Due.road(x, "f1*f1*f1*f1*f1*f1*f1*");
        Due.is("13 the seventh PLACE of eight", x.beast(0, 6, 0, 0), 0);
        Due.refused(x, "13 the eighth is THE END", OUTSIDE, () -> x.beast(0, 7, 0, 0));
        Due.road(x, "f1");
        Due.is("13 PLACE 0 of two", x.beast(0, 0, 0, 0), 0);
        Due.refused(x, "13 THE END of two", OUTSIDE, () -> x.beast(0, 1, 0, 0));
    }

    private static void beastStrengths() {
        FreshHorses x = Due.ready();
        Due.sort(x, "12:1,1,1;0,0,0");
        Due.sort(x, "1:1,1,1;0,0,0");
        int[] most = {4, 12, 1};
        for (int sort = 0; sort < 3; sort++) {
            int s = sort;
            Due.is("13 no strength", x.beast(sort, 0, 0, 0), 2 * sort);
            Due.is("13 the SORT's STRENGTH", x.beast(sort, 0, most[sort], 0), 2 * sort + 1);
            Due.refused(x, "13 more than that", OUTSIDE, () -> x.beast(s, 0, most[s] + 1, 0));
            for (int bad : FAR_OFF) Due.refused(x, "13 strength " + bad, OUTSIDE, () -> x.beast(s, 0, bad, 0));
        }
    }

    private static void beastMinutes() {
        FreshHorses x = Due.ready();
        Due.is("13 since 0", x.beast(0, 0, 0, 0), 0);
        Due.is("13 since 9999", x.beast(0, 0, 0, 9999), 1);
        Due.is("14 since 9999", x.about(1, 3), 9999);
        Due.refused(x, "13 since 10000", OUTSIDE, () -> x.beast(0, 0, 0, 10000));
        for (int bad : FAR_OFF) Due.refused(x, "13 since " + bad, OUTSIDE, () -> x.beast(0, 0, 0, bad));
    }

    private static void upToTwelve() {
        FreshHorses x = Due.ready();
        for (int b = 0; b < 12; b++) {
            Due.refused(x, "14 BEAST " + b + " names nothing yet", UNKNOWN, () -> x.about(x.count(1), 0));
            Due.is("13 number", x.beast(0, b % 3, b % 5, b), b);
        }
        Due.refused(x, "13 a thirteenth", FULL, () -> x.beast(0, 0, 0, 0));
        Due.refused(x, "13 place ahead of FULL", OUTSIDE, () -> x.beast(0, 3, 0, 0));
        Due.refused(x, "13 strength ahead of FULL", OUTSIDE, () -> x.beast(0, 0, 5, 0));
        Due.refused(x, "13 since ahead of FULL", OUTSIDE, () -> x.beast(0, 0, 0, 10000));
        Due.refused(x, "13 UNKNOWN ahead of FULL", UNKNOWN, () -> x.beast(1, 0, 0, 0));
        for (int b = 0; b < 12; b++) {
            int[] due = {0, b % 3, b % 5, b};
            for (int what = 0; what < 4; what++) Due.is("14 BEAST " + b + " " + what, x.about(b, what), due[what]);
        }
    }

    private static void refusalsInOrder() {
        FreshHorses x = new FreshHorses();
        Due.refused(x, "13 no SORTS", UNKNOWN, () -> x.beast(0, 0, 0, 0));
        Due.sort(x, Due.SORT);
        Due.refused(x, "13 no ROAD", STATE, () -> x.beast(0, 0, 0, 0));
        Due.refused(x, "13 UNKNOWN ahead of STATE", UNKNOWN, () -> x.beast(1, 0, 0, 0));
        Due.refused(x, "13 STATE ahead of OUTSIDE: place", STATE, () -> x.beast(0, -1, 0, 0));
        Due.refused(x, "13 STATE ahead of OUTSIDE: strength", STATE, () -> x.beast(0, 0, 5, 0));
        Due.refused(x, "13 STATE ahead of OUTSIDE: since", STATE, () -> x.beast(0, 0, 0, -1));
        Due.road(x, Due.ROAD);
        for (int bad : FAR_OFF) Due.refused(x, "13 SORT " + bad, UNKNOWN, () -> x.beast(bad, bad, bad, bad));
    }

    private static void aboutEdges() {
        FreshHorses x = Due.ready();
        Due.sort(x, "12:1,1,1;0,0,0");
        x.beast(1, 2, 11, 77);
        int[] due = {1, 2, 11, 77};
        for (int what = 0; what < 4; what++) Due.is("14 what " + what, x.about(0, what), due[what]);
        Due.refused(x, "14 what 4", OUTSIDE, () -> x.about(0, 4));
        Due.refused(x, "14 BEAST 1", UNKNOWN, () -> x.about(1, 0));
        Due.refused(x, "14 BEAST 12", UNKNOWN, () -> x.about(12, 0));
        for (int bad : FAR_OFF) {
            Due.refused(x, "14 what " + bad, OUTSIDE, () -> x.about(0, bad));
            Due.refused(x, "14 BEAST " + bad, UNKNOWN, () -> x.about(bad, 0));
            Due.refused(x, "14 UNKNOWN ahead of OUTSIDE", UNKNOWN, () -> x.about(1, bad));
        }
    }

    private static void restedByTheHalfHour() {
        FreshHorses x = Due.ready();
        Due.sort(x, "12:1,1,1;0,0,0");
        x.beast(1, 0, 0, 100);
        for (int hour = 0; hour <= 12; hour++) {
            Due.is("15 just after " + hour, x.strength(0, 100 + 30 * hour), hour);
            Due.is("15 just ahead of one more", x.strength(0, 100 + 30 * hour + 29), hour);
        }
    }

    private static void notBehindSince() {
        FreshHorses x = Due.ready();
        x.beast(0, 0, 2, 100);
        for (int minute : new int[] {0, 1, 39, 40, 69, 70, 71, 99, 100, 129}) {
            Due.is("15 at " + minute + ", not half an hour behind 100", x.strength(0, minute), 2);
        }
        x.beast(0, 0, 3, 9999);
        Due.is("15 SINCE 9999 at 0", x.strength(1, 0), 3);
        Due.is("15 SINCE 9999 at 9999", x.strength(1, 9999), 3);
    }

    private static void strengthAtMost() {
        FreshHorses x = Due.ready();
        x.beast(0, 0, 3, 0);
        x.beast(0, 0, 4, 0);
        int[][] due = {{29, 3, 4}, {30, 4, 4}, {60, 4, 4}, {9999, 4, 4}};
        for (int[] d : due) {
            Due.is("15 from 3 at " + d[0], x.strength(0, d[0]), d[1]);
            Due.is("15 from 4 at " + d[0], x.strength(1, d[0]), d[2]);
        }
    }

    /** A BEAST that was ridden at the last minute is back behind it. */
    private static void sinceBehindTheLastMinute() {
        FreshHorses x = Due.ready();
        x.ride(0, 0);
        x.beast(0, 0, 1, 9999);
        Due.is("20 at the last minute", x.ridden(0, 9999), 63);
        Due.is("14 SINCE is behind it", x.about(0, 3), 10062);
        Due.is("15 none more at 9999", x.strength(0, 9999), 0);
        Due.is("15 none more at 0", x.strength(0, 0), 0);
    }

    private static void strengthEdges() {
        FreshHorses x = Due.ready();
        Due.refused(x, "15 no BEASTS", UNKNOWN, () -> x.strength(0, 0));
        x.beast(0, 0, 1, 0);
        Due.is("15 the first minute", x.strength(0, 0), 1);
        Due.is("15 the last minute", x.strength(0, 9999), 4);
        Due.refused(x, "15 minute 10000", OUTSIDE, () -> x.strength(0, 10000));
        for (int bad : FAR_OFF) {
            Due.refused(x, "15 minute " + bad, OUTSIDE, () -> x.strength(0, bad));
            Due.refused(x, "15 BEAST " + bad, UNKNOWN, () -> x.strength(bad, 0));
            Due.refused(x, "15 UNKNOWN ahead of OUTSIDE", UNKNOWN, () -> x.strength(1, bad));
        }
    }

    private static void ledTo() {
        FreshHorses x = Due.ready();
        x.beast(0, 0, 2, 60);
        x.beast(0, 1, 1, 5);
        int[] to = {0, 1, 2, 3, 3, 0};
        int was = 0;
        for (int place : to) {
            Due.is("16 where it was", x.lead(0, place), was);
            Due.is("16 where it is", x.about(0, 1), place);
            Due.is("16 strength stays", x.about(0, 2), 2);
            Due.is("16 SINCE stays", x.about(0, 3), 60);
            was = place;
        }
        Due.is("16 another one stays", x.about(1, 1), 1);
        x.ride(0, 0);
        x.lead(0, 3);
        x.lead(1, 3);
        Due.is("16 at THE END no RIDE takes it", x.tried(0, 0), 150);
    }

    private static void ledFromLost() {
        FreshHorses x = Due.ready();
        x.ride(0, 2);
        x.beast(0, 0, 3, 0);
        Due.is("20 it walks the HILL, and is left on the SAND", x.ridden(0, 0), 3 + 6 + 12 + 75);
        Due.is("33 one is LOST", x.count(5), 1);
        Due.is("16 it was LOST", x.lead(0, 3), NONE);
        Due.is("33 it is no longer", x.count(5), 0);
        Due.is("16 strength stays", x.about(0, 2), 0);
        Due.is("16 SINCE stays", x.about(0, 3), 21);
    }

    private static void leadEdges() {
        FreshHorses x = new FreshHorses();
        Due.refused(x, "16 no BEASTS, no ROAD", UNKNOWN, () -> x.lead(0, 0));
        FreshHorses y = Due.ready();
        y.beast(0, 0, 2, 0);
        Due.refused(y, "16 behind THE END", OUTSIDE, () -> y.lead(0, 4));
        Due.refused(y, "16 BEAST 1", UNKNOWN, () -> y.lead(1, 0));
        for (int bad : FAR_OFF) {
            Due.refused(y, "16 PLACE " + bad, OUTSIDE, () -> y.lead(0, bad));
            Due.refused(y, "16 BEAST " + bad, UNKNOWN, () -> y.lead(bad, 0));
            Due.refused(y, "16 UNKNOWN ahead of OUTSIDE", UNKNOWN, () -> y.lead(1, bad));
        }
    }
}
