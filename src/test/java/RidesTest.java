/** Promises 17 to 22: rides of each KIND, where BEASTS are left, WRONG, SOONER. */
public final class RidesTest {
    public static void main(String[] args) {
        even();
        ground();
        press();
        taking();
        best();
        likeOnes();
        sparing();
        told();
        wrongSteps();
        refusals();
        withoutRoad();
        sooner();
        Due.end();
    }

    private static void ways(FreshHorses x, int ride, int minute, int[] paces, int[] beasts) {
        for (int i = 0; i < paces.length; i++) {
            Due.is("19 pace of mile " + i, x.way(ride, minute, i, 0), paces[i]);
            Due.is("19 beast of mile " + i, x.way(ride, minute, i, 1), beasts[i]);
        }
    }

    private static void leftIs(FreshHorses x, int ride, int minute, int beast, int[] due) {
        for (int what = 0; what < 3; what++) {
            Due.is("18 beast " + beast + " " + what, x.left(ride, minute, beast, what), due[what]);
        }
    }

    private static void even() {
        FreshHorses x = Due.ready();
        x.ride(0, 2);
        Due.is("17 on foot", x.tried(0, 0), 150);
        x.beast(0, 0, 4, 0);
        Due.is("17 even", x.tried(0, 7), 93);
        ways(x, 0, 7, new int[] {2, 2, 0, 3, 3, 3}, new int[] {0, 0, 0, -1, -1, -1});
        leftIs(x, 0, 7, 0, new int[] {-1, 0, 1});
        Due.is("17 nothing changed", x.about(0, 1), 0);
        Due.is("20 ridden", x.ridden(0, 7), 93);
        Due.is("20 lost", x.about(0, 1), FreshHorses.NONE);
        Due.is("20 strength", x.about(0, 2), 0);
        Due.is("20 since", x.about(0, 3), 25);
        Due.is("20 counted", x.count(5), 1);
        leftIs(x, 0, 200, 0, new int[] {-1, 4, 0});
        Due.is("20 on foot then", x.ridden(0, 200), 150);
        Due.is("20 not ridden: as it was", x.about(0, 3), 25);
        Due.is("20 not ridden: strength as it was", x.about(0, 2), 0);
    }

    private static void ground() {
        FreshHorses x = Due.ready();
        x.ride(1, 19);
        x.beast(0, 0, 4, 0);
        Due.is("17 ground", x.tried(0, 0), 51);
        ways(x, 0, 0, new int[] {1, 1, 0, 1, 0, 0}, new int[] {0, 0, 0, 0, 0, 0});
        Due.is("20 ground", x.ridden(0, 100), 51);
        Due.is("20 the end", x.about(0, 1), 3);
        Due.is("20 when it came", x.about(0, 3), 151);
        FreshHorses y = Due.ready();
        y.ride(1, 3 + 2 * 9);
        y.beast(0, 1, 4, 0);
        Due.is("17 hill is the second figure", y.way(0, 0, 2, 0), 1);
        Due.is("17 sand is the third figure", y.way(0, 0, 3, 0), 1);
        Due.is("17 flat is the first figure", y.way(0, 0, 4, 0), 0);
    }

    private static void press() {
        FreshHorses x = Due.ready();
        x.ride(2, 0);
        x.beast(0, 0, 4, 0);
        Due.is("17 press, one", x.tried(0, 0), 93);
        x.beast(0, 1, 3, 0);
        Due.is("17 press, two", x.tried(0, 0), 45);
        ways(x, 0, 0, new int[] {2, 2, 1, 0, 0, 0}, new int[] {0, 0, 1, 1, 1, 1});
        leftIs(x, 0, 0, 0, new int[] {1, 0, 1});
        leftIs(x, 0, 0, 1, new int[] {3, 0, 1});
        Due.is("20 press", x.ridden(0, 10), 45);
        Due.is("20 the first is left at", x.about(0, 3), 16);
        Due.is("20 the second is left at", x.about(1, 3), 55);
    }

    /** Who is taken by the KINDS that take the strongest. */
    private static void taking() {
        FreshHorses x = Due.ready();
        x.ride(0, 0);
        x.beast(0, 0, 0, 200);
        Due.is("17 one of 0 is not taken", x.way(0, 0, 0, 1), FreshHorses.NONE);
        x.beast(0, 0, 1, 200);
        x.beast(0, 0, 2, 200);
        x.beast(0, 0, 2, 190);
        Due.is("17 the least of the strongest", x.way(0, 0, 0, 1), 2);
        x.beast(0, 1, 2, 200);
        Due.is("17 a like one is not taken", x.way(0, 0, 2, 1), 2);
        x.beast(0, 1, 3, 200);
        Due.is("17 a stronger one is", x.way(0, 0, 2, 1), 5);
        Due.is("17 the other stands there", x.left(0, 0, 2, 0), 1);
        Due.is("17 strength at the minute", x.way(0, 230, 2, 1), 5);
        FreshHorses y = Due.ready();
        Due.sort(y, "12:5,5,5;9,9,9");
        y.ride(0, 2);
        y.beast(0, 0, 4, 0);
        y.beast(1, 0, 8, 900);
        Due.is("17 the stronger cannot", y.tried(0, 0), 150);
        leftIs(y, 0, 0, 1, new int[] {0, 8, 0});
        leftIs(y, 0, 0, 0, new int[] {0, 4, 0});
        y.ridden(0, 0);
        Due.is("20 taken, not ridden", y.about(1, 3), 900);
        Due.is("20 it stays", y.about(1, 1), 0);
    }

    private static void best() {
        FreshHorses x = Due.ready();
        x.ride(3, 0);
        x.beast(0, 0, 4, 0);
        Due.is("17 best, one", x.tried(0, 0), 51);
        x.beast(0, 1, 3, 0);
        Due.is("17 best, two", x.tried(0, 0), 41);
        ways(x, 0, 0, new int[] {2, 2, 0, 0, 1, 1}, new int[] {0, 0, 1, 1, 1, 1});
        leftIs(x, 0, 0, 0, new int[] {1, 0, 1});
        leftIs(x, 0, 0, 1, new int[] {3, 0, 1});
        FreshHorses y = new FreshHorses();
        Due.road(y, "f1*f2");
        Due.sort(y, "2:30,30,5;0,0,1");
        y.ride(3, 0);
        y.beast(0, 0, 1, 999);
        Due.is("17 leaves one to go on foot", y.tried(0, 0), 55);
        ways(y, 0, 0, new int[] {2, 3, 3}, new int[] {0, -1, -1});
        leftIs(y, 0, 0, 0, new int[] {1, 0, 1});
        longest();
    }

    /** THE ROAD of most MILES, a BEAST of most strength. */
    private static void longest() {
        FreshHorses x = new FreshHorses();
        Due.road(x, "f9f9f6");
        Due.sort(x, "12:20,15,5;0,1,1");
        x.ride(3, 0);
        x.ride(4, 12);
        x.beast(0, 0, 12, 0);
        Due.is("17 longest", x.tried(0, 0), 12 * 20 + 12 * 5);
        for (int i = 0; i < 24; i++) Due.is("19 longest " + i, x.way(0, 0, i, 0), i < 12 ? 0 : 2);
        Due.is("17 longest, all spared", x.tried(1, 0), 24 * 20);
        Due.is("18 longest", x.left(1, 0, 0, 1), 12);
    }

    /** Of ways of like MINUTES the first as told. */
    private static void likeOnes() {
        FreshHorses x = new FreshHorses();
        Due.road(x, "f1*f1");
        Due.sort(x, "3:25,25,25;0,1,2");
        x.ride(3, 0);
        x.beast(0, 0, 3, 0);
        x.beast(0, 1, 3, 0);
        Due.is("17 like ones", x.tried(0, 0), 50);
        ways(x, 0, 0, new int[] {3, 3}, new int[] {-1, -1});
        Due.sort(x, "3:9,9,9;0,1,2");
        x.beast(1, 0, 3, 0);
        x.beast(1, 0, 3, 0);
        x.beast(1, 1, 3, 0);
        ways(x, 0, 0, new int[] {0, 0}, new int[] {2, 2});
        FreshHorses y = new FreshHorses();
        Due.road(y, "f1*f1");
        Due.sort(y, "1:20,20,5;0,0,1");
        Due.sort(y, "1:25,25,25;0,0,0");
        y.ride(3, 0);
        y.beast(1, 1, 1, 0);
        y.beast(0, 0, 1, 0);
        y.beast(0, 1, 1, 0);
        y.beast(0, 1, 1, 0);
        Due.is("17 the least that is soonest", y.tried(0, 0), 10);
        ways(y, 0, 0, new int[] {2, 2}, new int[] {1, 2});
    }

    private static void sparing() {
        FreshHorses x = Due.ready();
        x.ride(4, 1);
        x.ride(4, 0);
        x.ride(4, 12);
        x.beast(0, 0, 4, 0);
        x.beast(0, 1, 3, 0);
        Due.is("17 sparing 1", x.tried(0, 0), 48);
        ways(x, 0, 0, new int[] {1, 2, 0, 0, 0, 1}, new int[] {0, 0, 1, 1, 1, 1});
        leftIs(x, 0, 0, 0, new int[] {1, 1, 1});
        leftIs(x, 0, 0, 1, new int[] {3, 1, 1});
        Due.is("17 sparing 0 is a best", x.tried(1, 0), 41);
        Due.is("17 sparing 12 goes on foot", x.tried(2, 0), 150);
    }

    private static void told() {
        FreshHorses x = Due.ready();
        x.beast(0, 0, 4, 0);
        x.beast(0, 1, 3, 0);
        Due.tell(x, "c0rrc1wwtt");
        Due.tell(x, "c0rrdoooo");
        Due.tell(x, "oooooo");
        Due.is("17 told", x.tried(0, 0), 41);
        Due.is("21 nothing", x.wrong(0, 0), FreshHorses.NONE);
        ways(x, 0, 0, new int[] {2, 2, 0, 0, 1, 1}, new int[] {0, 0, 1, 1, 1, 1});
        Due.is("17 left", x.tried(1, 0), 106);
        leftIs(x, 1, 0, 0, new int[] {1, 0, 1});
        leftIs(x, 1, 0, 1, new int[] {1, 3, 0});
        Due.is("17 on foot", x.tried(2, 0), 150);
        Due.is("20 told", x.ridden(0, 30), 41);
        Due.is("20 first", x.about(0, 3), 36);
        Due.is("20 it fails then", x.ridden(0, 40), FreshHorses.STATE);
        Due.is("20 nothing changed", x.about(0, 3), 36);
        afterAFailure();
    }

    /** Nothing of a TOLD that fails on the way stays for the next ride. */
    private static void afterAFailure() {
        FreshHorses x = Due.ready();
        x.beast(0, 0, 4, 0);
        Due.tell(x, "c0wwc5w");
        x.ride(4, 12);
        Due.is("17 fails", x.tried(0, 0), FreshHorses.STATE);
        Due.is("17 behind it", x.tried(1, 0), 150);
        Due.is("17 fails again", x.tried(0, 0), FreshHorses.STATE);
        Due.is("18 behind it", x.left(1, 0, 0, 0), 0);
    }

    private static void wrongIs(String text, int due) {
        FreshHorses x = Due.ready();
        x.beast(0, 0, 4, 0);
        x.beast(0, 1, 3, 0);
        Due.tell(x, text);
        Due.is("21 wrong of " + text, x.wrong(0, 0), due);
        Due.is("17 tried of " + text, x.tried(0, 0), FreshHorses.STATE);
        Due.is("18 left of " + text, x.left(0, 0, 0, 0), FreshHorses.STATE);
        Due.is("19 way of " + text, x.way(0, 0, 0, 0), FreshHorses.STATE);
    }

    private static void wrongSteps() {
        wrongIs("c0rrc1wwt", 5);
        wrongIs("c0rrc1wwttw", 6);
        wrongIs("c0rrc1wwttwww", 6);
        wrongIs("c0rc1rwwww", 1);
        wrongIs("c0rdooooo", 1);
        wrongIs("c1wwwwww", 0);
        wrongIs("c7wwwwww", 0);
        wrongIs("c11wwwwww", 0);
        wrongIs("dooooooo", 0);
        wrongIs("c0oooooo", 0);
        wrongIs("oowoooo", 2);
        wrongIs("c0wwdwoooo", 2);
        wrongIs("c0wwooooo", 2);
        wrongIs("c0rrrwww", 2);
        wrongIs("c0rrc0wwww", 2);
        wrongIs("c0rrc1wwc0ww", 4);
        wrongIs("w", 0);
        wrongIs("o", 1);
    }

    private static void refusals() {
        FreshHorses x = Due.ready();
        x.beast(0, 0, 4, 0);
        x.ride(0, 0);
        Due.tell(x, "w");
        for (int bad : new int[] {-1, 10000, Integer.MIN_VALUE, Integer.MAX_VALUE}) {
            Due.is("17 outside", x.tried(0, bad), FreshHorses.OUTSIDE);
            Due.is("17 outside ahead of a told", x.tried(1, bad), FreshHorses.OUTSIDE);
            Due.is("18 outside", x.left(1, bad, 0, 0), FreshHorses.OUTSIDE);
            Due.is("18 what", x.left(1, 0, 0, bad), FreshHorses.OUTSIDE);
            Due.is("18 beast ahead of outside", x.left(1, bad, bad, bad), FreshHorses.UNKNOWN);
            Due.is("19 minute", x.way(1, bad, 0, 0), FreshHorses.OUTSIDE);
            Due.is("19 mile", x.way(1, 0, bad, 0), FreshHorses.OUTSIDE);
            Due.is("19 what", x.way(1, 0, 0, bad), FreshHorses.OUTSIDE);
            Due.is("20 outside", x.ridden(1, bad), FreshHorses.OUTSIDE);
            Due.is("21 outside", x.wrong(1, bad), FreshHorses.OUTSIDE);
            Due.is("21 not told, ahead of outside", x.wrong(0, bad), FreshHorses.STATE);
            Due.is("17 unknown", x.tried(bad, bad), FreshHorses.UNKNOWN);
            Due.is("18 unknown", x.left(bad, bad, 0, 0), FreshHorses.UNKNOWN);
            Due.is("19 unknown", x.way(bad, bad, 0, 0), FreshHorses.UNKNOWN);
            Due.is("20 unknown", x.ridden(bad, bad), FreshHorses.UNKNOWN);
            Due.is("21 unknown", x.wrong(bad, bad), FreshHorses.UNKNOWN);
        }
        Due.is("18 what 3", x.left(0, 0, 0, 3), FreshHorses.OUTSIDE);
        Due.is("18 beast 1", x.left(0, 0, 1, 0), FreshHorses.UNKNOWN);
        Due.is("19 mile 6", x.way(0, 0, 6, 0), FreshHorses.OUTSIDE);
        Due.is("19 what 2", x.way(0, 0, 0, 2), FreshHorses.OUTSIDE);
        Due.is("17 the last minute", x.tried(0, 9999), 63);
        Due.is("20 the last minute", x.ridden(0, 9999), 63);
        Due.is("20 since behind it", x.about(0, 3), 10062);
    }

    private static void withoutRoad() {
        FreshHorses x = new FreshHorses();
        x.ride(0, 0);
        Due.is("17 state", x.tried(0, -1), FreshHorses.STATE);
        Due.is("17 unknown ahead", x.tried(1, 0), FreshHorses.UNKNOWN);
        Due.is("18 state ahead of beast", x.left(0, 0, 0, 0), FreshHorses.STATE);
        Due.is("19 state", x.way(0, -1, -1, -1), FreshHorses.STATE);
        Due.is("20 state", x.ridden(0, -1), FreshHorses.STATE);
        Due.is("21 state", x.wrong(0, -1), FreshHorses.STATE);
        Due.is("22 state", x.sooner(0, 0, 0), -100003);
        Due.is("22 unknown ahead", x.sooner(0, 1, 0), -100001);
    }

    private static void sooner() {
        FreshHorses x = Due.ready();
        x.beast(0, 0, 4, 0);
        x.ride(0, 2);
        x.ride(3, 0);
        Due.tell(x, "w");
        Due.is("22 more", x.sooner(0, 1, 0), 42);
        Due.is("22 less", x.sooner(1, 0, 0), -42);
        Due.is("22 itself", x.sooner(1, 1, 9999), 0);
        Due.is("22 unknown ride", x.sooner(3, 0, -1), -100001);
        Due.is("22 unknown other", x.sooner(0, -1, -1), -100001);
        Due.is("22 minute", x.sooner(2, 0, 10000), -100002);
        Due.is("22 state", x.sooner(2, 0, 0), -100003);
        Due.is("22 state of the other", x.sooner(0, 2, 0), -100003);
    }
}
