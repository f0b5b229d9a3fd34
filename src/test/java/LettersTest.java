/** Promises 28 to 30: LETTERS of a day, and how few beasts would do. */
public final class LettersTest {
    public static void main(String[] args) {
        letters();
        days();
        backLater();
        dayRefusals();
        fewest();
        fewestRefusals();
        Due.end();
    }

    private static void letters() {
        FreshHorses x = new FreshHorses();
        Due.is("28 without a road", x.letter(5), 1);
        Due.is("28 the same minute", x.letter(5), 2);
        Due.is("28 ahead of the last", x.letter(4), FreshHorses.OUTSIDE);
        Due.is("28 below", x.letter(-1), FreshHorses.OUTSIDE);
        Due.is("28 above", x.letter(10000), FreshHorses.OUTSIDE);
        for (int i = 3; i <= 10; i++) Due.is("28 more", x.letter(9999), i);
        Due.is("28 full", x.letter(9999), FreshHorses.FULL);
        Due.is("28 outside ahead of full", x.letter(9998), FreshHorses.OUTSIDE);
        Due.is("33 letters", x.count(3), 10);
    }

    private static void dayIs(FreshHorses x, int ride, int together, int slowest, int lost) {
        long before = x.digest();
        Due.is("29 together", x.day(ride, 0), together);
        Due.is("29 slowest", x.day(ride, 1), slowest);
        Due.is("29 lost", x.day(ride, 2), lost);
        Due.is("29 nothing stays", x.digest(), before);
    }

    private static void days() {
        FreshHorses x = Due.ready();
        x.ride(0, 0);
        x.ride(0, 2);
        Due.tell(x, "c0wwwwww");
        x.beast(0, 0, 4, 0);
        dayIs(x, 0, 0, 0, 0);
        dayIs(x, 2, 0, 0, 0);
        x.letter(0);
        dayIs(x, 2, 63, 63, 0);
        x.letter(10);
        dayIs(x, 0, 213, 150, 0);
        dayIs(x, 1, 243, 150, 1);
        Due.is("29 a told fails", x.day(2, 0), FreshHorses.STATE);
        Due.is("29 outside ahead of a told", x.day(2, 3), FreshHorses.OUTSIDE);
        x.ridden(1, 0);
        dayIs(x, 0, 300, 150, 1);
    }

    /** Who is not yet back can be taken, with what it had when it was left. */
    private static void backLater() {
        FreshHorses x = new FreshHorses();
        Due.road(x, "f1*f1");
        Due.sort(x, "4:20,10,5;1,2,3");
        x.ride(0, 1);
        x.beast(0, 0, 3, 0);
        x.beast(0, 1, 4, 0);
        x.letter(0);
        x.letter(1);
        x.letter(40);
        dayIs(x, 0, 20 + 45 + 50, 50, 0);
        x.ridden(0, 0);
        x.ridden(0, 1);
        Due.is("29 as ridden one behind the other", x.tried(0, 40), 50);
    }

    private static void dayRefusals() {
        FreshHorses x = new FreshHorses();
        x.ride(0, 0);
        Due.is("29 unknown ahead", x.day(1, 9), FreshHorses.UNKNOWN);
        Due.is("29 unknown below", x.day(-1, 0), FreshHorses.UNKNOWN);
        Due.is("29 state ahead of outside", x.day(0, 9), FreshHorses.STATE);
        Due.road(x, "f1");
        Due.is("29 what", x.day(0, 3), FreshHorses.OUTSIDE);
        Due.is("29 what below", x.day(0, -1), FreshHorses.OUTSIDE);
    }

    private static void fewest() {
        FreshHorses x = Due.ready();
        x.ride(0, 0);
        x.beast(0, 0, 4, 0);
        Due.is("30 no letters", x.fewest(0, 0, 0), 1);
        x.letter(0);
        x.letter(10);
        Due.is("30 one", x.fewest(0, 0, 93), 1);
        Due.is("30 two", x.fewest(0, 0, 92), 2);
        Due.is("30 two, just", x.fewest(0, 0, 63), 2);
        Due.is("30 none", x.fewest(0, 0, 62), FreshHorses.NONE);
        Due.is("30 counted", x.count(8), 5);
        Due.is("30 no beast stays", x.count(1), 1);
        Due.road(x, "f1*f1*f1*f1*f1*f1*f1");
        Due.sort(x, "1:5,5,5;1,1,1");
        x.letter(0);
        Due.is("30 one each", x.fewest(1, 0, 35), 1);
        x.letter(0);
        Due.is("30 twelve at most", x.fewest(1, 0, 35), FreshHorses.NONE);
        Due.road(x, "f1*f1*f1");
        x.letter(0);
        x.letter(0);
        x.letter(0);
        x.letter(0);
        Due.is("30 four each", x.fewest(1, 0, 15), 4);
        x.letter(0);
        Due.is("30 twelve at most", x.fewest(1, 0, 15), FreshHorses.NONE);
        Due.road(x, "f1");
        for (int i = 0; i < 5; i++) x.letter(0);
        Due.is("30 four at most", x.fewest(1, 0, 5), FreshHorses.NONE);
    }

    private static void fewestRefusals() {
        FreshHorses x = new FreshHorses();
        Due.is("30 unknown sort", x.fewest(0, 0, -1), FreshHorses.UNKNOWN);
        Due.sort(x, Due.SORT);
        Due.is("30 unknown ride", x.fewest(0, 0, -1), FreshHorses.UNKNOWN);
        x.ride(0, 0);
        Due.tell(x, "w");
        Due.is("30 unknown sort", x.fewest(1, 0, -1), FreshHorses.UNKNOWN);
        Due.is("30 no road", x.fewest(0, 0, -1), FreshHorses.STATE);
        Due.road(x, Due.ROAD);
        Due.is("30 told", x.fewest(0, 1, -1), FreshHorses.STATE);
        Due.is("30 limit", x.fewest(0, 0, -1), FreshHorses.OUTSIDE);
        Due.is("30 limit above", x.fewest(0, 0, 10000), FreshHorses.OUTSIDE);
        for (int i = 0; i < 10; i++) Due.is("30 done", x.fewest(0, 0, 9999), 1);
        Due.is("30 ten times", x.fewest(0, 0, 9999), FreshHorses.STATE);
        Due.is("30 outside ahead", x.fewest(0, 0, 10000), FreshHorses.OUTSIDE);
        Due.is("33 ten times", x.count(8), 10);
    }
}
