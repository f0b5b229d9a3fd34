/** Promises 31 to 34: IMAGE, count, digest. */
public final class ToldTest {
    public static void main(String[] args) {
        images();
        otherRoads();
        counts();
        digests();
        Due.end();
    }

    private static void images() {
        FreshHorses x = Due.ready();
        Due.is("32 none kept", x.restore(), FreshHorses.STATE);
        x.ride(0, 2);
        x.beast(0, 0, 4, 0);
        x.hay(1, 7);
        x.letter(3);
        Due.is("31 image", x.image(), 1);
        x.beast(0, 1, 2, 9);
        x.hay(1, 8);
        x.letter(4);
        x.ridden(0, 0);
        x.ride(0, 1);
        Due.is("32 restore", x.restore(), 1);
        Due.is("32 beasts", x.count(1), 1);
        Due.is("32 letters", x.count(3), 1);
        Due.is("32 the last letter", x.letter(3), 2);
        Due.is("32 hay", x.hay(1, 1), 7);
        Due.is("32 the place", x.about(0, 1), 0);
        Due.is("32 strength", x.about(0, 2), 4);
        Due.is("32 since", x.about(0, 3), 0);
        Due.is("32 rides stay", x.count(2), 2);
        x.lead(0, 2);
        Due.is("32 again", x.restore(), 1);
        Due.is("32 the image did not change", x.about(0, 1), 0);
        x.beast(0, 1, 2, 9);
        Due.is("31 the latest", x.image(), 2);
        Due.is("32 the latest", x.restore(), 2);
    }

    private static void otherRoads() {
        FreshHorses x = new FreshHorses();
        x.letter(5);
        Due.is("31 without a road", x.image(), 0);
        x.letter(6);
        Due.is("32 without a road", x.restore(), 0);
        Due.is("32 without a road, letters", x.count(3), 1);
        Due.road(x, Due.ROAD);
        Due.is("32 a road since", x.restore(), FreshHorses.STATE);
        x.image();
        Due.road(x, "f");
        Due.is("32 that was none", x.restore(), 0);
        Due.road(x, Due.ROAD);
        Due.is("32 another road since, of the same text", x.restore(), FreshHorses.STATE);
        x.image();
        Due.is("32 a new image", x.restore(), 0);
    }

    private static void counts() {
        FreshHorses x = Due.ready();
        x.ride(0, 2);
        x.ride(0, 2);
        x.beast(0, 0, 4, 0);
        x.ridden(0, 0);
        x.beast(0, 0, 4, 0);
        x.beast(0, 0, 4, 0);
        for (int i = 0; i < 4; i++) x.letter(0);
        Due.write(x, "abcde");
        for (int i = 0; i < 7; i++) x.shut(0, 0, 0);
        for (int i = 0; i < 8; i++) x.fewest(0, 0, 0);
        int[] due = {1, 3, 2, 4, 5, 1, 1, 7, 8};
        for (int what = 0; what < 9; what++) Due.is("33 " + what, x.count(what), due[what]);
        Due.is("33 outside", x.count(9), FreshHorses.OUTSIDE);
        Due.is("33 outside below", x.count(-1), FreshHorses.OUTSIDE);
    }

    private static void digests() {
        FreshHorses x = new FreshHorses();
        Due.is("34 new", x.digest(), 389L * 31 * 31 * 31 * 31 * 31 * 31 * 31 * 31 * 31);
        x.ride(1, 5);
        Due.is("34 no road", x.digest(), digestOf(x, "", new int[] {1, 5}, new int[0]));
        Due.road(x, Due.ROAD);
        Due.sort(x, Due.SORT);
        Due.sort(x, "12:30,20,10;9,8,7");
        Due.tell(x, "c0wwwwww");
        Due.tell(x, "w");
        x.ride(4, 3);
        x.beast(0, 0, 1, 60);
        x.beast(1, 2, 12, 0);
        x.ridden(0, 0);
        x.lead(0, 0);
        x.hay(2, 5);
        x.letter(8);
        x.letter(9);
        x.set(0, 0, 0);
        Due.write(x, "a b");
        int[] told = {1, 5, 5, 0, 5, 0, 4, 3};
        Due.is("34 all", x.digest(), digestOf(x, "a b", told, new int[] {8, 9}));
        Due.is("34 again", x.digest(), x.digest());
        atMinute100();
    }

    /** Rides are tried just at minute 100: a beast that has rested 29 or 30 minutes then. */
    private static void atMinute100() {
        for (int since = 70; since <= 71; since++) {
            FreshHorses x = Due.ready();
            x.ride(0, 2);
            x.beast(0, 0, 1, since);
            Due.is("34 tried at 100", x.tried(0, 100), since == 70 ? 10 + 3 + 12 + 75 : 6 + 10 + 12 + 75);
            Due.is("34 at 100", x.digest(), digestOf(x, "", new int[] {0, 2}, new int[0]));
        }
    }

    /** The digest, worked out from what the other calls tell. */
    private static long digestOf(FreshHorses x, String page, int[] kindsAndNs, int[] minutes) {
        long h = 389;
        boolean road = x.roadTold(0) != FreshHorses.STATE;
        int places = road ? x.roadTold(1) : 0;
        if (road) {
            h = 31 * (31 * h + x.roadTold(0)) + places;
            for (int p = 0; p < places; p++) h = 31 * h + x.roadTold(10 + p);
            for (int i = 0; i < x.roadTold(0); i++) h = 31 * h + x.roadTold(30 + i);
            for (int p = 0; p < places - 1; p++) {
                int v = x.hay(p, 0);
                x.hay(p, v);
                h = 31 * h + v;
            }
        }
        for (int s = 0; s < x.count(0); s++) {
            for (int what = 0; what < 7; what++) h = 31 * h + x.sortTold(s, what);
        }
        for (int b = 0; b < x.count(1); b++) {
            for (int what = 0; what < 4; what++) h = 31 * h + x.about(b, what);
        }
        for (int r = 0; r < x.count(2); r++) {
            h = 31 * (31 * h + kindsAndNs[2 * r]) + kindsAndNs[2 * r + 1];
            if (road) h = 31 * h + x.tried(r, 100);
        }
        for (int minute : minutes) h = 31 * h + minute;
        for (int i = 0; i < page.length(); i++) h = 31 * h + page.charAt(i);
        for (int what = 0; what <= 8; what++) h = 31 * h + x.count(what);
        return h;
    }
}
