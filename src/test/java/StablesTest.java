/** Promises 23 to 27: where stables should be, which is missed, which should be shut. */
public final class StablesTest {
    public static void main(String[] args) {
        sets();
        setRefusals();
        gaps();
        missed();
        hay();
        shut();
        twenty();
        Due.end();
    }

    private static void sets() {
        FreshHorses x = Due.ready();
        x.beast(0, 0, 1, 0);
        Due.is("23 none", x.set(0, 0, 0), 0);
        Due.is("23 none, minutes", x.set(0, 0, 1), 51);
        Due.is("23 one, minutes", x.set(0, 1, 1), 37);
        Due.is("23 one", x.set(0, 1, 0), 2);
        Due.is("23 all", x.set(0, 2, 0), 6);
        FreshHorses y = new FreshHorses();
        Due.road(y, "f1*f1*f1*f1");
        Due.sort(y, "1:25,25,25;1,1,1");
        Due.is("23 of like ones the least bits", y.set(0, 2, 0), 6);
        Due.is("23 like minutes", y.set(0, 2, 1), 100);
        Due.sort(y, "2:25,25,5;0,0,1");
        Due.is("23 the third place", y.set(1, 1, 0), 4);
        Due.is("23 the third place, minutes", y.set(1, 1, 1), 20);
        Due.is("23 counted", y.count(7), 4);
        Due.is("23 no beast stays", y.count(1), 0);
    }

    private static void setRefusals() {
        FreshHorses bare = new FreshHorses();
        Due.is("23 unknown", bare.set(0, 0, 0), FreshHorses.UNKNOWN);
        Due.sort(bare, Due.SORT);
        Due.is("23 state ahead of outside", bare.set(0, -1, 0), FreshHorses.STATE);
        FreshHorses x = Due.ready();
        Due.is("23 unknown ahead", x.set(1, 3, 0), FreshHorses.UNKNOWN);
        Due.is("23 k", x.set(0, 3, 0), FreshHorses.OUTSIDE);
        Due.is("23 k below", x.set(0, -1, 0), FreshHorses.OUTSIDE);
        Due.is("23 what", x.set(0, 0, 2), FreshHorses.OUTSIDE);
        Due.is("23 what below", x.set(0, 0, -1), FreshHorses.OUTSIDE);
        Due.is("23 refusals are not counted", x.count(7), 0);
        Due.road(x, "f1");
        Due.is("23 two places", x.set(0, 0, 1), 3);
        Due.is("23 two places, k", x.set(0, 1, 1), FreshHorses.OUTSIDE);
    }

    private static void gaps() {
        FreshHorses x = Due.ready();
        int[][] due = {{0, 2, 2}, {0, 0, 6}, {3, 0, 0}, {1, 1, 2}, {2, 2, 2}, {1, 2, 1}, {0, 1, 3}};
        for (int[] d : due) Due.is("24 from " + d[0] + " at " + d[1], x.gap(0, d[0], d[1]), d[2]);
        int[][] outside = {{4, 0}, {-1, 0}, {0, 3}, {0, -1}};
        for (int[] o : outside) Due.is("24 outside", x.gap(0, o[0], o[1]), FreshHorses.OUTSIDE);
        Due.is("24 unknown ahead", x.gap(1, 4, 3), FreshHorses.UNKNOWN);
        FreshHorses bare = new FreshHorses();
        Due.sort(bare, Due.SORT);
        Due.is("24 state ahead", bare.gap(0, 9, 9), FreshHorses.STATE);
    }

    private static void missed() {
        FreshHorses x = Due.ready();
        Due.is("25 no beasts", x.missed(0, 0), 0);
        Due.is("25 no beasts, minutes", x.missed(0, 1), 0);
        x.beast(0, 0, 4, 0);
        x.beast(0, 1, 3, 0);
        Due.is("25 place", x.missed(0, 0), 0);
        Due.is("25 minutes", x.missed(0, 1), 44);
        x.lead(0, 2);
        Due.is("25 another place", x.missed(0, 0), 1);
        Due.is("25 another place, minutes", x.missed(0, 1), 34);
        Due.is("25 what", x.missed(0, 2), FreshHorses.OUTSIDE);
        Due.is("25 what below", x.missed(0, -1), FreshHorses.OUTSIDE);
        Due.is("25 minute", x.missed(10000, 0), FreshHorses.OUTSIDE);
        Due.is("25 minute below", x.missed(-1, 0), FreshHorses.OUTSIDE);
        Due.is("25 state ahead", new FreshHorses().missed(-1, 0), FreshHorses.STATE);
        FreshHorses y = new FreshHorses();
        Due.road(y, "f1*f1*f1");
        Due.sort(y, "1:9,9,5;1,1,1");
        y.beast(0, 1, 1, 0);
        y.beast(0, 2, 1, 0);
        Due.is("25 of like ones the least", y.missed(0, 0), 1);
        Due.is("25 like minutes", y.missed(0, 1), 20);
    }

    private static void hay() {
        FreshHorses x = Due.ready();
        Due.is("26 at first", x.hay(2, 999), 0);
        Due.is("26 then", x.hay(2, 0), 999);
        int[][] outside = {{3, 0}, {-1, 0}, {0, 1000}, {0, -1}};
        for (int[] o : outside) Due.is("26 outside", x.hay(o[0], o[1]), FreshHorses.OUTSIDE);
        Due.is("26 state ahead", new FreshHorses().hay(-1, -1), FreshHorses.STATE);
    }

    private static void shut() {
        FreshHorses x = Due.ready();
        x.beast(0, 0, 4, 0);
        x.beast(0, 1, 3, 0);
        Due.is("27 no hay", x.shut(0, 3, 0), 0);
        Due.is("27 no hay, cost", x.shut(0, 3, 1), 123);
        x.hay(0, 100);
        x.hay(1, 50);
        x.hay(2, 7);
        Due.is("27 places", x.shut(0, 3, 0), 6);
        Due.is("27 cost", x.shut(0, 3, 1), 253);
        Due.is("27 for nothing", x.shut(0, 0, 0), 7);
        Due.is("27 dear minutes", x.shut(0, 99, 0), 4);
        Due.is("27 dear minutes, cost", x.shut(0, 99, 1), 150 + 99 * 41);
        x.hay(2, 0);
        Due.is("27 of like ones the least bits", x.shut(0, 99, 0), 0);
        int[][] outside = {{-1, 0, 0}, {10000, 0, 0}, {0, -1, 0}, {0, 100, 0}, {0, 0, -1}, {0, 0, 2}};
        for (int[] o : outside) Due.is("27 outside", x.shut(o[0], o[1], o[2]), FreshHorses.OUTSIDE);
        Due.is("27 state ahead", new FreshHorses().shut(-1, 0, 0), FreshHorses.STATE);
        Due.is("27 counted", x.count(7), 8);
    }

    private static void twenty() {
        FreshHorses x = Due.ready();
        for (int i = 0; i < 10; i++) {
            Due.is("23 done", x.set(0, 0, 0), 0);
            Due.is("27 done", x.shut(0, 1, 1), 150);
        }
        Due.is("23 twenty", x.set(0, 0, 0), FreshHorses.STATE);
        Due.is("27 twenty", x.shut(0, 1, 1), FreshHorses.STATE);
        Due.is("23 outside ahead", x.set(0, 9, 0), FreshHorses.OUTSIDE);
        Due.is("27 outside ahead", x.shut(0, 1, 9), FreshHorses.OUTSIDE);
        Due.road(x, "f1");
        Due.is("23 twenty, by another road too", x.set(0, 0, 0), FreshHorses.STATE);
        Due.is("33 twenty", x.count(7), 20);
        Due.is("25 missed is not counted", x.missed(0, 0), 0);
    }
}
