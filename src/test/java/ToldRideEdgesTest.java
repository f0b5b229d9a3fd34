/** TOLD rides, WRONG, SOONER, and what promises 17 to 22 refuse, in which order. */
public final class ToldRideEdgesTest {
    private static final int OUTSIDE = FreshHorses.OUTSIDE, STATE = FreshHorses.STATE, UNKNOWN = FreshHorses.UNKNOWN;
    private static final int NONE = FreshHorses.NONE;
    private static final int SOONER_UNKNOWN = -100001, SOONER_OUTSIDE = -100002, SOONER_STATE = -100003;
    private static final int[] FAR_OFF = {-1, Integer.MIN_VALUE, Integer.MAX_VALUE};
    private static final int[] NO_MINUTES = {-1, 10000, Integer.MIN_VALUE, Integer.MAX_VALUE};

    public static void main(String[] args) {
        asToldGoes();
        noPlace();
        doesNotStandThere();
        leavesOnFoot();
        footWithABeast();
        paceWithoutOne();
        cannotDoIt();
        tooFewTooMany();
        theFirstOfSeveral();
        leftByAnotherRide();
        failsAndChangesNothing();
        triedEdges();
        leftEdges();
        wayEdges();
        riddenEdges();
        wrongEdges();
        soonerEdges();
        withoutARoad();
        withoutARide();
        Due.end();
    }

    /** MILES 0 and 1, PLACE 1, MILE 2 (HILL) and 3 (SAND), PLACE 2, MILES 4 and 5; BEAST 0 at PLACE 0, 1 and 2 at 1. */
    private static FreshHorses told(String text) {
        FreshHorses x = Due.ready();
        x.beast(0, 0, 4, 0);
        x.beast(0, 1, 3, 9999);
        x.beast(0, 1, 4, 9999);
        Due.is("8 " + text, Due.tell(x, text), 0);
        return x;
    }

    private static void wrongIs(String text, int due) {
        FreshHorses x = told(text);
        Due.is("21 " + text, x.wrong(0, 0), due);
        boolean fails = due != NONE;
        Due.is("17 " + text, x.tried(0, 0) == STATE ? 1 : 0, fails ? 1 : 0);
        Due.is("18 " + text, x.left(0, 0, 0, 1) == STATE ? 1 : 0, fails ? 1 : 0);
        Due.is("19 " + text, x.way(0, 0, 0, 0) == STATE ? 1 : 0, fails ? 1 : 0);
        if (fails) Due.refused(x, "20 " + text, STATE, () -> x.ridden(0, 0));
    }

    private static void asToldGoes() {
        wrongIs("oooooo", NONE);
        wrongIs("c0wwwwww", NONE);
        wrongIs("c0wwc1wwww", NONE);
        wrongIs("c0wwc1wwdoo", NONE);
        wrongIs("c0wwdoooo", NONE);
        wrongIs("ooc2wwww", NONE);
    }

    private static void noPlace() {
        wrongIs("oc0wwwww", 1);
        wrongIs("c0wdooooo", 1);
        wrongIs("c0wc1wwwww", 1);
        wrongIs("c0wwwc1www", 3);
        wrongIs("c0wwwwwdo", 5);
        wrongIs("c0wwwwdoo", NONE);
    }

    private static void doesNotStandThere() {
        wrongIs("c1wwwwww", 0);
        wrongIs("c3wwwwww", 0);
        wrongIs("c11wwwwww", 0);
        wrongIs("ooc0wwww", 2);
        wrongIs("c0wwc0wwww", 2);
        wrongIs("ooc1wwc2ww", 4);
        wrongIs("ooc1wwc1ww", 4);
        FreshHorses x = told("ooooc1ww");
        Due.is("21 it stands elsewhere", x.wrong(0, 0), 4);
        x.lead(1, 2);
        Due.is("21 led there it stands", x.wrong(0, 0), NONE);
        x.lead(1, 3);
        Due.is("21 led to THE END it does not", x.wrong(0, 0), 4);
    }

    private static void leavesOnFoot() {
        wrongIs("dooooooo", 0);
        wrongIs("oodoooo", 2);
        wrongIs("c0wwdoodoo", 4);
        wrongIs("oodwwww", 2);
    }

    private static void footWithABeast() {
        wrongIs("c0oooooo", 0);
        wrongIs("c0woooooo", 1);
        wrongIs("c0wwoooo", 2);
        wrongIs("c0wwc1oooo", 2);
    }

    private static void paceWithoutOne() {
        wrongIs("wooooo", 0);
        wrongIs("otoooo", 1);
        wrongIs("c0wwdrooo", 2);
    }

    /** On the HILL a RUN loses 3, on SAND a WALK 1. */
    private static void cannotDoIt() {
        wrongIs("c0rrwooo", 3);
        wrongIs("c0rwwwtw", NONE);
        wrongIs("c0rwwwtt", 5);
        wrongIs("ooc1rwww", 3);
        wrongIs("ooc2rwww", NONE);
        wrongIs("ooc1rdooo", 3);
        FreshHorses x = told("ooc1rwww");
        x.beast(0, 1, 3, 0);
        Due.is("21 strength AT the minute", x.wrong(0, 9999), 3);
        Due.tell(x, "ooc3rwww");
        Due.is("21 at 29 it has 3", x.wrong(1, 29), 3);
        Due.is("21 at 30 it has 4", x.wrong(1, 30), NONE);
    }

    private static void tooFewTooMany() {
        wrongIs("o", 1);
        wrongIs("ooooo", 5);
        wrongIs("ooooooo", 6);
        wrongIs("oooooooo", 6);
        wrongIs("c0wwwwwwdo", 6);
        wrongIs("ooooooc0w", 6);
        FreshHorses x = told("oooooo");
        Due.road(x, "f5");
        Due.is("21 another ROAD, a MILE less", x.wrong(0, 0), 5);
        Due.road(x, "f7");
        Due.is("21 another ROAD, a MILE more", x.wrong(0, 0), 6);
        Due.road(x, "h6*");
        Due.is("21 another ROAD of as many", x.wrong(0, 0), NONE);
    }

    private static void theFirstOfSeveral() {
        wrongIs("c0wdoc5w", 1);
        wrongIs("wwwwwwwww", 0);
        wrongIs("oowo", 2);
        wrongIs("ooowo", 3);
    }

    private static void leftByAnotherRide() {
        FreshHorses x = told("c0wwc2wwww");
        Due.is("20 MINUTES", x.ridden(0, 0), 10 + 10 + 12 + 11 + 10 + 10);
        Due.is("21 BEAST 0 stands at PLACE 1 now", x.wrong(0, 100), 0);
        Due.tell(x, "ooc0wwww");
        Due.is("21 from there it can be taken", x.wrong(1, 100), NONE);
        Due.is("20 left at", x.about(0, 3), 20);
        Due.is("20 came at", x.about(2, 3), 63);
        Due.is("20 BEAST 2 is at THE END", x.about(2, 1), 3);
    }

    private static void failsAndChangesNothing() {
        FreshHorses x = told("c0wwc1wwww");
        x.lead(1, 2);
        x.letter(0);
        Due.refused(x, "17 fails", STATE, () -> x.tried(0, 0));
        Due.refused(x, "20 fails", STATE, () -> x.ridden(0, 0));
        Due.refused(x, "22 fails", SOONER_STATE, () -> x.sooner(0, 0, 0));
        Due.refused(x, "29 fails", STATE, () -> x.day(0, 0));
        Due.is("14 BEAST 0 stands as before", x.about(0, 1), 0);
    }

    // ---- refusals

    /** RIDE 0 an EVEN, RIDE 1 a TOLD that fails, RIDE 2 a TOLD that does not. */
    private static FreshHorses three() {
        FreshHorses x = Due.ready();
        x.beast(0, 0, 4, 0);
        x.ride(0, 0);
        Due.tell(x, "w");
        Due.tell(x, "c0wwwwww");
        return x;
    }

    private static void triedEdges() {
        FreshHorses x = three();
        Due.is("17 the first minute", x.tried(0, 0), 63);
        Due.is("17 the last minute", x.tried(0, 9999), 63);
        Due.refused(x, "17 a TOLD that fails", STATE, () -> x.tried(1, 0));
        Due.refused(x, "17 RIDE 3", UNKNOWN, () -> x.tried(3, 0));
        for (int bad : NO_MINUTES) {
            Due.refused(x, "17 minute " + bad, OUTSIDE, () -> x.tried(0, bad));
            Due.refused(x, "17 OUTSIDE ahead of STATE of a TOLD", OUTSIDE, () -> x.tried(1, bad));
            Due.refused(x, "17 UNKNOWN ahead of OUTSIDE", UNKNOWN, () -> x.tried(3, bad));
        }
        for (int bad : FAR_OFF) Due.refused(x, "17 RIDE " + bad, UNKNOWN, () -> x.tried(bad, 0));
        long before = x.digest();
        x.tried(0, 0);
        Due.is("17 it changes nothing", x.digest(), before);
    }

    private static void leftEdges() {
        FreshHorses x = three();
        int[] due = {3, 3, 1};
        for (int what = 0; what < 3; what++) Due.is("18 what " + what, x.left(0, 9999, 0, what), due[what]);
        Due.refused(x, "18 what 3", OUTSIDE, () -> x.left(0, 0, 0, 3));
        Due.refused(x, "18 BEAST 1", UNKNOWN, () -> x.left(0, 0, 1, 0));
        Due.refused(x, "18 RIDE 3", UNKNOWN, () -> x.left(3, 0, 0, 0));
        Due.refused(x, "18 a TOLD that fails", STATE, () -> x.left(1, 0, 0, 0));
        Due.refused(x, "18 what ahead of STATE of a TOLD", OUTSIDE, () -> x.left(1, 0, 0, 3));
        Due.refused(x, "18 BEAST ahead of what", UNKNOWN, () -> x.left(0, 0, 1, 3));
        Due.refused(x, "18 BEAST ahead of STATE of a TOLD", UNKNOWN, () -> x.left(1, 0, 1, 0));
        for (int bad : NO_MINUTES) {
            Due.refused(x, "18 minute " + bad, OUTSIDE, () -> x.left(0, bad, 0, 0));
            Due.refused(x, "18 minute ahead of STATE of a TOLD", OUTSIDE, () -> x.left(1, bad, 0, 0));
            Due.refused(x, "18 BEAST ahead of minute", UNKNOWN, () -> x.left(0, bad, 1, 0));
            Due.refused(x, "18 RIDE ahead of all", UNKNOWN, () -> x.left(3, bad, 0, 3));
        }
        for (int bad : FAR_OFF) {
            Due.refused(x, "18 BEAST " + bad, UNKNOWN, () -> x.left(0, 0, bad, 0));
            Due.refused(x, "18 what " + bad, OUTSIDE, () -> x.left(0, 0, 0, bad));
            Due.refused(x, "18 RIDE " + bad, UNKNOWN, () -> x.left(bad, 0, 0, 0));
        }
        long before = x.digest();
        x.left(0, 0, 0, 0);
        Due.is("18 it changes nothing", x.digest(), before);
    }

    private static void wayEdges() {
        FreshHorses x = three();
        Due.is("19 the first MILE", x.way(0, 0, 0, 0), 0);
        Due.is("19 the last MILE", x.way(0, 9999, 5, 1), 0);
        Due.refused(x, "19 behind the last MILE", OUTSIDE, () -> x.way(0, 0, 6, 0));
        Due.refused(x, "19 MILE 24", OUTSIDE, () -> x.way(0, 0, 24, 0));
        Due.refused(x, "19 what 2", OUTSIDE, () -> x.way(0, 0, 0, 2));
        Due.refused(x, "19 a TOLD that fails", STATE, () -> x.way(1, 0, 0, 0));
        Due.refused(x, "19 MILE ahead of STATE of a TOLD", OUTSIDE, () -> x.way(1, 0, 6, 0));
        Due.refused(x, "19 what ahead of STATE of a TOLD", OUTSIDE, () -> x.way(1, 0, 0, 2));
        Due.refused(x, "19 RIDE 3 ahead of all", UNKNOWN, () -> x.way(3, -1, 6, 2));
        for (int bad : NO_MINUTES) {
            Due.refused(x, "19 minute " + bad, OUTSIDE, () -> x.way(0, bad, 0, 0));
            Due.refused(x, "19 minute ahead of STATE of a TOLD", OUTSIDE, () -> x.way(1, bad, 0, 0));
        }
        for (int bad : FAR_OFF) {
            Due.refused(x, "19 MILE " + bad, OUTSIDE, () -> x.way(0, 0, bad, 0));
            Due.refused(x, "19 what " + bad, OUTSIDE, () -> x.way(0, 0, 0, bad));
            Due.refused(x, "19 RIDE " + bad, UNKNOWN, () -> x.way(bad, 0, 0, 0));
        }
        long before = x.digest();
        x.way(0, 0, 0, 0);
        Due.is("19 it changes nothing", x.digest(), before);
        FreshHorses y = Due.ready();
        Due.road(y, "f9f9f6");
        y.ride(3, 0);
        Due.is("19 MILE 23", y.way(0, 0, 23, 0), 3);
        Due.refused(y, "19 MILE 24", OUTSIDE, () -> y.way(0, 0, 24, 0));
    }

    private static void riddenEdges() {
        FreshHorses x = three();
        Due.refused(x, "20 RIDE 3", UNKNOWN, () -> x.ridden(3, 0));
        Due.refused(x, "20 a TOLD that fails", STATE, () -> x.ridden(1, 0));
        for (int bad : NO_MINUTES) {
            Due.refused(x, "20 minute " + bad, OUTSIDE, () -> x.ridden(0, bad));
            Due.refused(x, "20 OUTSIDE ahead of STATE of a TOLD", OUTSIDE, () -> x.ridden(1, bad));
            Due.refused(x, "20 UNKNOWN ahead of OUTSIDE", UNKNOWN, () -> x.ridden(3, bad));
        }
        for (int bad : FAR_OFF) Due.refused(x, "20 RIDE " + bad, UNKNOWN, () -> x.ridden(bad, 0));
        Due.is("20 the last minute", x.ridden(2, 9999), 63);
        Due.is("20 SINCE behind it", x.about(0, 3), 10062);
        FreshHorses y = three();
        Due.is("20 the first minute", y.ridden(0, 0), 63);
        Due.is("20 SINCE when it came", y.about(0, 3), 63);
    }

    private static void wrongEdges() {
        FreshHorses x = three();
        Due.is("21 the first minute", x.wrong(2, 0), NONE);
        Due.is("21 the last minute", x.wrong(2, 9999), NONE);
        Due.is("21 one that fails", x.wrong(1, 0), 0);
        Due.refused(x, "21 not TOLD", STATE, () -> x.wrong(0, 0));
        Due.refused(x, "21 RIDE 3", UNKNOWN, () -> x.wrong(3, 0));
        for (int bad : NO_MINUTES) {
            Due.refused(x, "21 minute " + bad, OUTSIDE, () -> x.wrong(2, bad));
            Due.refused(x, "21 minute " + bad + " of one that fails", OUTSIDE, () -> x.wrong(1, bad));
            Due.refused(x, "21 not TOLD, ahead of OUTSIDE", STATE, () -> x.wrong(0, bad));
            Due.refused(x, "21 UNKNOWN ahead of all", UNKNOWN, () -> x.wrong(3, bad));
        }
        for (int bad : FAR_OFF) Due.refused(x, "21 RIDE " + bad, UNKNOWN, () -> x.wrong(bad, 0));
        for (int kind = 1; kind < 5; kind++) {
            int ride = x.ride(kind, 0);
            Due.refused(x, "21 KIND " + kind + " is not TOLD", STATE, () -> x.wrong(ride, 0));
        }
        long before = x.digest();
        x.wrong(1, 0);
        Due.is("21 it changes nothing", x.digest(), before);
    }

    private static void soonerEdges() {
        FreshHorses x = three();
        int walks = x.ride(4, 12);
        Due.is("22 the first minute", x.sooner(0, walks, 0), 63 - 150);
        Due.is("22 above 0", x.sooner(walks, 0, 9999), 150 - 63);
        Due.is("22 as soon", x.sooner(2, 0, 50), 0);
        Due.refused(x, "22 a TOLD that fails", SOONER_STATE, () -> x.sooner(1, 0, 0));
        Due.refused(x, "22 another that fails", SOONER_STATE, () -> x.sooner(0, 1, 0));
        Due.refused(x, "22 RIDE 4", SOONER_UNKNOWN, () -> x.sooner(4, 0, 0));
        Due.refused(x, "22 another RIDE 4", SOONER_UNKNOWN, () -> x.sooner(0, 4, 0));
        Due.refused(x, "22 UNKNOWN ahead of a TOLD that fails", SOONER_UNKNOWN, () -> x.sooner(1, 4, 0));
        for (int bad : NO_MINUTES) {
            Due.refused(x, "22 minute " + bad, SOONER_OUTSIDE, () -> x.sooner(0, 2, bad));
            Due.refused(x, "22 minute ahead of a TOLD that fails", SOONER_OUTSIDE, () -> x.sooner(1, 1, bad));
            Due.refused(x, "22 UNKNOWN ahead of minute", SOONER_UNKNOWN, () -> x.sooner(4, 0, bad));
            Due.refused(x, "22 UNKNOWN ahead of minute, another", SOONER_UNKNOWN, () -> x.sooner(0, 4, bad));
        }
        for (int bad : FAR_OFF) {
            Due.refused(x, "22 RIDE " + bad, SOONER_UNKNOWN, () -> x.sooner(bad, 0, 0));
            Due.refused(x, "22 another " + bad, SOONER_UNKNOWN, () -> x.sooner(0, bad, 0));
        }
        long before = x.digest();
        x.sooner(0, walks, 0);
        Due.is("22 it changes nothing", x.digest(), before);
        FreshHorses y = Due.ready();
        Due.road(y, "f9f9f6");
        Due.sort(y, "12:1,1,1;0,0,0");
        y.ride(0, 0);
        y.ride(4, 12);
        y.beast(1, 0, 11, 9999);
        Due.is("22 the most below 0", y.sooner(0, 1, 0), 24 - 600);
        Due.is("22 the most above 0", y.sooner(1, 0, 0), 600 - 24);
    }

    private static void withoutARoad() {
        FreshHorses x = new FreshHorses();
        x.ride(0, 0);
        Due.tell(x, "o");
        for (int ride = 0; ride < 2; ride++) {
            int r = ride;
            for (int minute : new int[] {0, 9999, 10000, -1}) {
                Due.refused(x, "17 no ROAD", STATE, () -> x.tried(r, minute));
                Due.refused(x, "18 no ROAD, ahead of UNKNOWN: beast", STATE, () -> x.left(r, minute, 0, 9));
                Due.refused(x, "19 no ROAD", STATE, () -> x.way(r, minute, 0, 9));
                Due.refused(x, "20 no ROAD", STATE, () -> x.ridden(r, minute));
                Due.refused(x, "21 no ROAD", STATE, () -> x.wrong(r, minute));
                Due.refused(x, "22 no ROAD", SOONER_STATE, () -> x.sooner(r, r, minute));
            }
        }
        Due.refused(x, "17 UNKNOWN ahead of no ROAD", UNKNOWN, () -> x.tried(2, 0));
        Due.refused(x, "18 UNKNOWN ahead of no ROAD", UNKNOWN, () -> x.left(2, 0, 0, 0));
        Due.refused(x, "19 UNKNOWN ahead of no ROAD", UNKNOWN, () -> x.way(2, 0, 0, 0));
        Due.refused(x, "20 UNKNOWN ahead of no ROAD", UNKNOWN, () -> x.ridden(2, 0));
        Due.refused(x, "21 UNKNOWN ahead of no ROAD", UNKNOWN, () -> x.wrong(2, 0));
        Due.refused(x, "22 UNKNOWN ahead of no ROAD", SOONER_UNKNOWN, () -> x.sooner(2, 0, 0));
        Due.refused(x, "22 UNKNOWN ahead of no ROAD, another", SOONER_UNKNOWN, () -> x.sooner(0, 2, 0));
    }

    private static void withoutARide() {
        FreshHorses x = Due.ready();
        x.beast(0, 0, 4, 0);
        Due.refused(x, "17 no RIDES", UNKNOWN, () -> x.tried(0, 0));
        Due.refused(x, "18 no RIDES", UNKNOWN, () -> x.left(0, 0, 0, 0));
        Due.refused(x, "19 no RIDES", UNKNOWN, () -> x.way(0, 0, 0, 0));
        Due.refused(x, "20 no RIDES", UNKNOWN, () -> x.ridden(0, 0));
        Due.refused(x, "21 no RIDES", UNKNOWN, () -> x.wrong(0, 0));
        Due.refused(x, "22 no RIDES", SOONER_UNKNOWN, () -> x.sooner(0, 0, 0));
    }
}
