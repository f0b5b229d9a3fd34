/** Promises 13 to 16: BEASTS, how they rest, where they stand. */
public final class BeastsTest {
    public static void main(String[] args) {
        beasts();
        refusals();
        rest();
        leading();
        Due.end();
    }

    private static void beasts() {
        FreshHorses x = Due.ready();
        Due.sort(x, "2:1,1,1;0,0,0");
        Due.is("13 first", x.beast(0, 0, 4, 9999), 0);
        Due.is("13 second", x.beast(1, 2, 0, 0), 1);
        int[][] due = {{0, 0, 4, 9999}, {1, 2, 0, 0}};
        for (int b = 0; b < 2; b++) {
            for (int what = 0; what < 4; what++) Due.is("14 " + b + " " + what, x.about(b, what), due[b][what]);
        }
        Due.is("14 outside", x.about(0, 4), FreshHorses.OUTSIDE);
        Due.is("14 outside below", x.about(0, -1), FreshHorses.OUTSIDE);
        Due.is("14 unknown ahead", x.about(2, 4), FreshHorses.UNKNOWN);
        Due.is("14 unknown below", x.about(-1, 0), FreshHorses.UNKNOWN);
        for (int b = 2; b < 12; b++) Due.is("13 more", x.beast(0, 1, 1, 1), b);
        Due.is("13 full", x.beast(0, 1, 1, 1), FreshHorses.FULL);
        Due.is("13 outside ahead of full", x.beast(0, 3, 1, 1), FreshHorses.OUTSIDE);
    }

    private static void refusals() {
        FreshHorses bare = new FreshHorses();
        Due.is("13 unknown ahead of state", bare.beast(0, 0, 0, 0), FreshHorses.UNKNOWN);
        Due.sort(bare, Due.SORT);
        Due.is("13 state ahead of outside", bare.beast(0, -1, 0, 0), FreshHorses.STATE);
        FreshHorses x = Due.ready();
        int[][] outside = {{3, 0, 0}, {-1, 0, 0}, {0, 5, 0}, {0, -1, 0}, {0, 0, 10000}, {0, 0, -1}};
        for (int[] o : outside) Due.is("13 outside", x.beast(0, o[0], o[1], o[2]), FreshHorses.OUTSIDE);
        Due.is("13 unknown", x.beast(1, 0, 0, 0), FreshHorses.UNKNOWN);
        Due.is("13 nothing changed", x.count(1), 0);
    }

    private static void rest() {
        FreshHorses x = Due.ready();
        x.beast(0, 0, 1, 100);
        int[][] due = {{0, 1}, {100, 1}, {129, 1}, {130, 2}, {159, 2}, {160, 3}, {190, 4}, {9999, 4}};
        for (int[] d : due) Due.is("15 at " + d[0], x.strength(0, d[0]), d[1]);
        Due.is("15 outside", x.strength(0, 10000), FreshHorses.OUTSIDE);
        Due.is("15 outside below", x.strength(0, -1), FreshHorses.OUTSIDE);
        Due.is("15 unknown ahead", x.strength(1, -1), FreshHorses.UNKNOWN);
    }

    private static void leading() {
        FreshHorses x = Due.ready();
        x.beast(0, 1, 2, 50);
        Due.is("16 to the end", x.lead(0, 3), 1);
        Due.is("16 back", x.lead(0, 0), 3);
        Due.is("16 place", x.about(0, 1), 0);
        Due.is("16 strength stays", x.about(0, 2), 2);
        Due.is("16 since stays", x.about(0, 3), 50);
        Due.is("16 outside", x.lead(0, 4), FreshHorses.OUTSIDE);
        Due.is("16 outside below", x.lead(0, -1), FreshHorses.OUTSIDE);
        Due.is("16 unknown ahead", x.lead(1, 4), FreshHorses.UNKNOWN);
        Due.is("16 unknown without a road", new FreshHorses().lead(0, 0), FreshHorses.UNKNOWN);
        x.ride(0, 2);
        x.ridden(0, 0);
        Due.is("16 a lost one", x.about(0, 1), FreshHorses.NONE);
        Due.is("16 it was lost", x.lead(0, 2), FreshHorses.NONE);
        Due.is("16 it stands", x.about(0, 1), 2);
    }
}
