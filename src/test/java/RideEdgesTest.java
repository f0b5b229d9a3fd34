/** Part 2 and promises 17 to 20, sentence by sentence: how rides of each KIND go, at their edges. */
public final class RideEdgesTest {
    private static final int NONE = FreshHorses.NONE;
    private static final int EVEN = 0, GROUND = 1, PRESS = 2, BEST = 3, SPARING = 4;

    public static void main(String[] args) {
        onFoot();
        notBelow();
        strengthAtTheBeginning();
        notRestedOnTheWay();
        leftAtAPlace();
        leftBetweenPlaces();
        takesNoOtherThen();
        nextSlower();
        noFaster();
        byGround();
        pressedToThePlace();
        pressedToTheEnd();
        pressedWithNone();
        strongestTaken();
        bestOfNone();
        bestKeepsItsBeast();
        bestComesToThePlace();
        bestLeavesForFoot();
        bestGoesOnAheadOfFoot();
        bestFootAheadOfBeast();
        bestLesserBeast();
        bestOfOneSort();
        bestLesserPace();
        bestEarlierChoiceCounts();
        bestOnAnotherRoad();
        sparesJustSo();
        sparesTheWeak();
        notRidden();
        sinceLeft();
        ridesOfBeastsNotThere();
        Due.end();
    }

    private static FreshHorses on(String road, String... sorts) {
        FreshHorses x = new FreshHorses();
        Due.is("5 " + road, Math.min(Due.road(x, road), 2), 2);
        for (int s = 0; s < sorts.length; s++) Due.is("6 " + sorts[s], Due.sort(x, sorts[s]), s);
        return x;
    }

    /** PACES as letters w, t, r, o; BEASTS as digits, '-' without one. */
    private static void goes(String name, FreshHorses x, int ride, int minute, String paces, String beasts) {
        for (int i = 0; i < paces.length(); i++) {
            Due.is(name + ", PACE of MILE " + i, x.way(ride, minute, i, 0), "wtro".indexOf(paces.charAt(i)));
            int due = beasts.charAt(i) == '-' ? NONE : beasts.charAt(i) - '0';
            Due.is(name + ", BEAST of MILE " + i, x.way(ride, minute, i, 1), due);
        }
        Due.is(name + ", all MILES", x.roadTold(0), paces.length());
    }

    private static void left(String name, FreshHorses x, int ride, int beast, int place, int strength, int ridden) {
        Due.is(name + ": PLACE of " + beast, x.left(ride, 0, beast, 0), place);
        Due.is(name + ": strength of " + beast, x.left(ride, 0, beast, 1), strength);
        Due.is(name + ": whether ridden " + beast, x.left(ride, 0, beast, 2), ridden);
    }

    // ---- how any RIDE goes

    private static void onFoot() {
        FreshHorses x = on("f1h1s1*f9h9s3");
        int[] n = {2, 26, 0, 0, 12};
        for (int kind = 0; kind < 5; kind++) {
            x.ride(kind, n[kind]);
            Due.is("17 25 MINUTES on any GROUND, KIND " + kind, x.tried(kind, 0), 600);
            goes("17 ON FOOT", x, kind, 9999, "o".repeat(24), "-".repeat(24));
        }
        Due.is("20 nothing is ridden", x.ridden(0, 0), 600);
    }

    private static void notBelow() {
        int[][] due = {{2, 25}, {3, 9}, {4, 9}, {5, 8}, {8, 8}, {9, 7}};
        for (int[] d : due) {
            FreshHorses y = on("f1", "12:9,8,7;3,5,9");
            y.ride(EVEN, 2);
            y.ride(BEST, 0);
            y.beast(0, 0, d[0], 9999);
            Due.is("17 EVEN by strength " + d[0], y.tried(0, 0), d[1]);
            Due.is("17 BEST by strength " + d[0], y.tried(1, 0), d[1]);
        }
    }

    private static void strengthAtTheBeginning() {
        FreshHorses x = on("f1", "2:9,9,5;0,1,2");
        x.ride(EVEN, 2);
        x.beast(0, 0, 1, 100);
        Due.is("17 at 129", x.tried(0, 129), 9);
        Due.is("19 at 129", x.way(0, 129, 0, 0), 1);
        Due.is("17 at 130", x.tried(0, 130), 5);
        Due.is("19 at 130", x.way(0, 130, 0, 0), 2);
        Due.is("18 at 129", x.left(0, 129, 0, 1), 0);
        Due.is("17 ahead of SINCE", x.tried(0, 0), 9);
    }

    private static void notRestedOnTheWay() {
        for (int kind = 0; kind < 4; kind++) {
            FreshHorses x = on("f9f9*f1", "12:9,9,5;1,1,1");
            x.ride(kind, 0);
            x.beast(0, 1, 0, 0);
            Due.is("17 450 MINUTES later it has still none, KIND " + kind, x.tried(0, 0), 475);
            Due.is("17 by one more at T it has, KIND " + kind, x.tried(0, 30), 450 + (kind < 2 ? 9 : 5));
        }
    }

    private static void leftAtAPlace() {
        FreshHorses x = on("f1*f1*f1", "4:5,5,5;2,2,2");
        x.ride(EVEN, 0);
        x.beast(0, 0, 3, 9999);
        Due.is("17 left at a PLACE", x.tried(0, 0), 55);
        left("18 left at a PLACE", x, 0, 0, 1, 1, 1);
        x.ridden(0, 40);
        Due.is("20 it stands at that PLACE", x.about(0, 1), 1);
        Due.is("20 SINCE it was left", x.about(0, 3), 45);
        Due.is("20 none is LOST", x.count(5), 0);
    }

    private static void leftBetweenPlaces() {
        FreshHorses x = on("f2*f1", "4:5,5,5;2,2,2");
        x.ride(EVEN, 0);
        x.beast(0, 0, 3, 9999);
        x.beast(0, 1, 2, 9999);
        Due.is("17 left between PLACES", x.tried(0, 0), 35);
        goes("19 from ON FOOT it takes one again", x, 0, 0, "wow", "0-1");
        left("18 LOST", x, 0, 0, NONE, 1, 1);
        left("18 at THE END", x, 0, 1, 2, 0, 1);
        x.ridden(0, 40);
        Due.is("20 it is LOST", x.about(0, 1), NONE);
        Due.is("20 with what it had", x.about(0, 2), 1);
        Due.is("20 SINCE it was left", x.about(0, 3), 45);
        Due.is("20 the other came", x.about(1, 3), 75);
    }

    /** The strongest is TAKEN, even if it can do nothing; then it goes on ON FOOT. */
    private static void takesNoOtherThen() {
        for (int kind = 0; kind < 3; kind++) {
            FreshHorses x = on("f1*f1*f1", "3:5,5,5;0,0,0", "12:5,5,5;9,9,9");
            x.ride(kind, 0);
            x.beast(0, 0, 3, 0);
            x.beast(1, 1, 8, 9999);
            Due.is("17 KIND " + kind, x.tried(0, 0), 55);
            goes("19 KIND " + kind, x, 0, 0, kind == PRESS ? "roo" : "woo", "0--");
            left("18 the one that it rode stands there", x, 0, 0, 1, 3, 1);
            left("18 the one that can do nothing, too", x, 0, 1, 1, 8, 0);
            x.ridden(0, 0);
            Due.is("20 it was not ridden: SINCE stays", x.about(1, 3), 9999);
            Due.is("20 the first was", x.about(0, 3), 5);
        }
    }

    // ---- EVEN, GROUND, PRESS

    private static void nextSlower() {
        FreshHorses x = on("f4", "12:20,10,5;1,2,3");
        for (int n = 0; n < 3; n++) x.ride(EVEN, n);
        x.beast(0, 0, 6, 9999);
        goes("19 EVEN of WALK", x, 0, 0, "wwww", "0000");
        goes("19 EVEN of TROT", x, 1, 0, "ttto", "000-");
        goes("19 EVEN of RUN", x, 2, 0, "rroo", "00--");
        FreshHorses y = on("f4", "12:20,10,5;1,2,3");
        y.ride(EVEN, 2);
        y.beast(0, 0, 5, 9999);
        goes("19 RUN, then TROT, then none", y, 0, 0, "rtoo", "00--");
        FreshHorses z = on("f4", "12:20,10,5;1,2,3");
        z.ride(EVEN, 2);
        z.beast(0, 0, 4, 9999);
        goes("19 RUN, then WALK, then none", z, 0, 0, "rwoo", "00--");
    }

    private static void noFaster() {
        FreshHorses x = on("f1", "12:20,10,5;2,1,1");
        for (int n = 0; n < 3; n++) x.ride(EVEN, n);
        x.ride(GROUND, 0);
        x.ride(PRESS, 0);
        x.ride(BEST, 0);
        x.beast(0, 0, 1, 9999);
        int[] due = {25, 10, 5, 25, 5, 5};
        for (int ride = 0; ride < 6; ride++) Due.is("17 RIDE " + ride + " of one that cannot WALK", x.tried(ride, 0), due[ride]);
    }

    private static void byGround() {
        for (int n = 0; n < 27; n++) {
            FreshHorses x = on("f1h1s1", "12:9,8,7;0,0,0");
            x.ride(GROUND, n);
            x.beast(0, 0, 12, 0);
            Due.is("19 FLAT, the lowest figure of " + n, x.way(0, 0, 0, 0), n % 3);
            Due.is("19 HILL, the second of " + n, x.way(0, 0, 1, 0), n % 9 / 3);
            Due.is("19 SAND, the third of " + n, x.way(0, 0, 2, 0), n / 9);
        }
        FreshHorses x = on("f1h1s1", "12:9,8,7;1,1,1");
        x.ride(GROUND, 26);
        x.beast(0, 0, 3, 9999);
        goes("19 the next slower one on each", x, 0, 0, "rro", "00-");
        FreshHorses y = on("s2", "12:9,8,7;0,1,2");
        y.ride(GROUND, 18);
        y.beast(0, 0, 3, 9999);
        goes("19 RUN on SAND, then none", y, 0, 0, "ro", "0-");
        FreshHorses z = on("s2", "12:9,8,7;0,1,2");
        z.ride(GROUND, 18);
        z.beast(0, 0, 2, 9999);
        goes("19 TROT on SAND for it cannot RUN", z, 0, 0, "to", "0-");
    }

    private static void pressedToThePlace() {
        String[] paces = {"", "ooo", "woo", "www", "tww", "rww", "rtw", "rrw", "rrt", "rrr"};
        for (int strength = 1; strength <= 9; strength++) {
            FreshHorses x = on("f3*f1", "12:20,10,5;1,2,3");
            x.ride(PRESS, 0);
            x.beast(0, 0, strength, 9999);
            String due = strength == 1 ? "woo" : strength == 2 ? "wwo" : paces[strength];
            goes("19 PRESS of " + strength, x, 0, 0, due + "o", due.replaceAll("[wtr]", "0").replace('o', '-') + "-");
        }
        FreshHorses x = on("f1*f1", "12:20,10,5;1,2,3");
        x.ride(PRESS, 0);
        x.beast(0, 0, 4, 9999);
        goes("19 PRESS looks to the next PLACE alone", x, 0, 0, "rw", "00");
    }

    private static void pressedToTheEnd() {
        FreshHorses x = on("f1h1s1", "12:20,10,5;1,2,3");
        x.ride(PRESS, 0);
        x.beast(0, 0, 6, 9999);
        goes("19 PRESS to THE END: HILL and SAND are counted", x, 0, 0, "rww", "000");
        FreshHorses y = on("f1h1s1", "12:20,10,5;1,2,3");
        y.ride(PRESS, 0);
        y.beast(0, 0, 5, 9999);
        goes("19 PRESS to THE END: one less", y, 0, 0, "tww", "000");
        FreshHorses z = on("f1", "12:20,10,5;9,2,9");
        z.ride(PRESS, 0);
        z.beast(0, 0, 2, 9999);
        goes("19 PRESS: no MILE behind it needs a WALK", z, 0, 0, "t", "0");
    }

    private static void pressedWithNone() {
        FreshHorses x = on("f4*f1", "12:20,10,5;2,1,1");
        x.ride(PRESS, 0);
        x.beast(0, 0, 4, 9999);
        goes("19 none: as an EVEN of WALK", x, 0, 0, "wwooo", "00---");
        left("18 none: LOST", x, 0, 0, NONE, 0, 1);
        FreshHorses y = on("f2*f1", "12:20,10,5;3,1,1");
        y.ride(PRESS, 0);
        y.beast(0, 0, 2, 9999);
        goes("19 none, and it cannot WALK: left at its PLACE", y, 0, 0, "ooo", "---");
        left("18 none: at its PLACE", y, 0, 0, 0, 2, 0);
        FreshHorses z = on("f3", "12:20,10,5;2,1,1");
        z.ride(PRESS, 0);
        z.beast(0, 0, 4, 9999);
        goes("19 none at first, a faster one on the last MILE", z, 0, 0, "wwo", "00-");
    }

    private static void strongestTaken() {
        for (int kind = 0; kind < 3; kind++) {
            FreshHorses x = on("f1*f1*f1", "12:9,9,9;0,0,0", "6:9,9,9;0,0,0");
            x.ride(kind, 0);
            x.beast(0, 0, 0, 9999);
            Due.is("19 ON FOOT: none with 0", x.way(0, 0, 0, 1), NONE);
            x.beast(1, 0, 1, 9999);
            Due.is("19 ON FOOT: one with 1", x.way(0, 0, 0, 1), 1);
            x.beast(0, 0, 2, 9999);
            x.beast(1, 0, 2, 9999);
            Due.is("19 the strongest, of like ones the least", x.way(0, 0, 0, 1), 2);
            x.beast(0, 1, 2, 9999);
            Due.is("19 a like one is not taken", x.way(0, 0, 1, 1), 2);
            x.beast(0, 1, 3, 9999);
            x.beast(1, 1, 3, 9999);
            Due.is("19 a stronger one is, of like ones the least", x.way(0, 0, 1, 1), 5);
            Due.is("18 it stands at THE END then", x.left(0, 0, 5, 0), 3);
            Due.is("18 the one that it rode stands there then", x.left(0, 0, 2, 0), 1);
            x.lead(6, 2);
            Due.is("19 a like one farther on is not taken", x.way(0, 0, 2, 1), 5);
            x.beast(1, 2, 4, 9999);
            Due.is("19 a stronger one farther on is", x.way(0, 0, 2, 1), 7);
        }
    }

    // ---- BEST, SPARING

    private static void bestOfNone() {
        FreshHorses x = on("f1", "12:9,9,9;0,1,1");
        x.ride(BEST, 0);
        x.beast(0, 0, 0, 9999);
        Due.is("17 one with 0 that loses none", x.tried(0, 0), 9);
        goes("19 one with 0", x, 0, 0, "w", "0");
        FreshHorses y = on("f1", "12:25,25,25;0,0,0", "12:24,26,26;0,0,0");
        y.ride(BEST, 0);
        y.beast(0, 0, 12, 0);
        goes("19 no sooner than ON FOOT", y, 0, 0, "o", "-");
        y.beast(1, 0, 12, 0);
        goes("19 sooner than ON FOOT by one", y, 0, 0, "w", "1");
    }

    private static void bestKeepsItsBeast() {
        FreshHorses x = on("f2*f2", "4:9,9,5;1,1,2", "12:25,25,4;9,9,1");
        x.ride(BEST, 0);
        x.beast(0, 0, 4, 9999);
        x.beast(1, 1, 2, 9999);
        Due.is("17 changes once", x.tried(0, 0), 18);
        goes("19 changes once", x, 0, 0, "rrrr", "0011");
        x.lead(1, 0);
        Due.is("17 the quicker one has not enough to come to a PLACE and on", x.tried(0, 0), 36);
        goes("19 cannot leave between PLACES", x, 0, 0, "wwww", "0000");
    }

    private static void bestComesToThePlace() {
        FreshHorses x = on("f3*f1", "2:5,5,5;1,1,1");
        x.ride(BEST, 0);
        x.ride(EVEN, 0);
        x.beast(0, 0, 2, 9999);
        Due.is("17 it never comes to a MILE that the BEAST cannot do", x.tried(0, 0), 100);
        Due.is("17 an EVEN does", x.tried(1, 0), 60);
        FreshHorses y = on("f2*f2", "2:5,5,5;1,1,1");
        y.ride(BEST, 0);
        y.beast(0, 0, 2, 9999);
        Due.is("17 to the PLACE just so", y.tried(0, 0), 60);
        left("18 left at that PLACE", y, 0, 0, 1, 0, 1);
    }

    private static void bestLeavesForFoot() {
        FreshHorses x = on("f1*h1", "1:24,24,24;0,0,0");
        x.ride(BEST, 0);
        x.beast(0, 0, 1, 9999);
        Due.is("17 ON FOOT from there is sooner", x.tried(0, 0), 49);
        goes("19 ON FOOT from there", x, 0, 0, "wo", "0-");
        left("18 left there", x, 0, 0, 1, 1, 1);
        FreshHorses y = on("f1*h1*f1", "1:23,23,23;0,0,0");
        y.ride(BEST, 0);
        y.beast(0, 0, 1, 9999);
        goes("19 it goes on as it is ahead of ON FOOT", y, 0, 0, "www", "000");
    }

    private static void bestGoesOnAheadOfFoot() {
        FreshHorses x = on("f1*h1", "1:23,23,23;0,0,0");
        x.ride(BEST, 0);
        x.beast(0, 0, 1, 9999);
        Due.is("17 like ones", x.tried(0, 0), 48);
        goes("19 it goes on as it is ahead of ON FOOT", x, 0, 0, "ww", "00");
        x.beast(0, 1, 1, 9999);
        goes("19 and ahead of a BEAST", x, 0, 0, "ww", "00");
        FreshHorses y = on("f1*f1", "1:9,9,9;0,0,0");
        y.ride(BEST, 0);
        y.beast(0, 1, 1, 9999);
        y.beast(0, 0, 1, 9999);
        goes("19 and ahead of a lesser BEAST", y, 0, 0, "ww", "11");
    }

    private static void bestFootAheadOfBeast() {
        FreshHorses x = on("f1*f1", "12:25,25,25;0,0,0", "12:9,9,9;1,1,1");
        x.ride(BEST, 0);
        x.beast(0, 0, 12, 0);
        x.beast(0, 1, 12, 0);
        goes("19 ON FOOT ahead of any BEAST", x, 0, 0, "oo", "--");
        x.beast(1, 0, 1, 9999);
        goes("19 left for ON FOOT ahead of a BEAST", x, 0, 0, "wo", "2-");
        left("18 left there", x, 0, 2, 1, 0, 1);
    }

    private static void bestLesserBeast() {
        FreshHorses x = on("f1*f1", "12:9,9,9;0,0,0", "1:9,9,9;1,1,1");
        x.ride(BEST, 0);
        x.beast(1, 1, 1, 9999);
        x.beast(1, 1, 1, 9999);
        x.beast(1, 0, 1, 9999);
        x.beast(1, 0, 1, 9999);
        goes("19 a lesser BEAST ahead of a greater one", x, 0, 0, "ww", "20");
        x.lead(0, 0);
        goes("19 the least of all", x, 0, 0, "ww", "01");
        x.beast(0, 0, 0, 9999);
        goes("19 a lesser one even if a greater could go on", x, 0, 0, "ww", "01");
    }

    private static void bestOfOneSort() {
        FreshHorses x = on("f2*f1", "4:9,9,5;1,1,2");
        x.ride(BEST, 0);
        x.beast(0, 0, 2, 9999);
        x.beast(0, 0, 4, 9999);
        x.beast(0, 0, 3, 9999);
        x.beast(0, 1, 1, 9999);
        x.beast(0, 1, 2, 9999);
        Due.is("17 of one SORT at one PLACE those with most", x.tried(0, 0), 15);
        goes("19 of one SORT at one PLACE those with most", x, 0, 0, "rrr", "114");
        x.lead(1, 2);
        Due.is("17 with less it is slower", x.tried(0, 0), 19);
        goes("19 with less it is slower", x, 0, 0, "wrr", "224");
    }

    private static void bestLesserPace() {
        FreshHorses x = on("f3", "12:9,9,5;0,1,2");
        x.ride(BEST, 0);
        x.beast(0, 0, 2, 9999);
        goes("19 a lesser PACE first", x, 0, 0, "wwr", "000");
        FreshHorses y = on("f1", "12:9,9,9;3,0,0");
        y.ride(BEST, 0);
        y.beast(0, 0, 3, 9999);
        goes("19 a lesser PACE, though it loses more", y, 0, 0, "w", "0");
        FreshHorses z = on("f2", "12:20,10,10;0,2,1");
        z.ride(BEST, 0);
        z.beast(0, 0, 3, 9999);
        goes("19 a lesser PACE of two that are like", z, 0, 0, "tr", "00");
    }

    private static void bestEarlierChoiceCounts() {
        FreshHorses x = on("f1*f1*f1", "12:9,9,9;0,0,0", "12:25,25,9;0,0,1");
        x.ride(BEST, 0);
        x.beast(1, 0, 1, 9999);
        x.beast(0, 0, 12, 0);
        x.beast(0, 1, 12, 0);
        Due.is("17 like ones", x.tried(0, 0), 27);
        goes("19 the first choice counts first", x, 0, 0, "rww", "022");
    }

    /** Nothing of a longer ROAD stays for a shorter one. */
    private static void bestOnAnotherRoad() {
        FreshHorses x = on("f4*h4*s4*f4*f4*f2*f2", "12:20,10,5;1,2,3");
        x.ride(BEST, 0);
        x.ride(SPARING, 2);
        String[] roads = {"f4*h4*s4*f4*f4*f2*f2", "f9*h4", "s2*f1*h3", "f3", "f1*f1*f1*f1"};
        for (String road : roads) {
            FreshHorses fresh = on(road, "12:20,10,5;1,2,3");
            fresh.ride(BEST, 0);
            fresh.ride(SPARING, 2);
            Due.road(x, road);
            for (FreshHorses each : new FreshHorses[] {x, fresh}) {
                for (int p = 0; p < each.roadTold(1) - 1; p++) each.beast(0, p, 12 - 3 * p, 9999);
            }
            for (int ride = 0; ride < 2; ride++) {
                Due.is("17 " + road + " as on a new object", x.tried(ride, 0), fresh.tried(ride, 0));
                for (int i = 0; i < fresh.roadTold(0); i++) {
                    Due.is("19 " + road + ", MILE " + i, x.way(ride, 0, i, 0), fresh.way(ride, 0, i, 0));
                    Due.is("19 " + road + ", BEAST of " + i, x.way(ride, 0, i, 1), fresh.way(ride, 0, i, 1));
                }
            }
            Due.is("25 " + road + " as on a new object", x.missed(0, 1), fresh.missed(0, 1));
        }
    }

    private static void sparesJustSo() {
        for (int n = 0; n <= 4; n++) {
            FreshHorses x = on("f2", "4:20,10,5;0,1,2");
            x.ride(SPARING, n);
            x.beast(0, 0, 4, 0);
            String[] due = {"rr", "tr", "tt", "wt", "ww"};
            goes("19 SPARING " + n, x, 0, 0, due[n], "00");
            Due.is("18 SPARING " + n + " leaves just that", x.left(0, 0, 0, 1), n);
        }
        FreshHorses x = on("f2", "12:20,10,5;0,1,2");
        x.ride(SPARING, 12);
        x.beast(0, 0, 12, 0);
        goes("19 SPARING 12 of 12", x, 0, 0, "ww", "00");
        FreshHorses y = on("f2", "4:20,10,5;0,1,2");
        y.ride(SPARING, 5);
        y.beast(0, 0, 4, 0);
        goes("19 SPARING 5 of 4", y, 0, 0, "oo", "--");
    }

    private static void sparesTheWeak() {
        FreshHorses x = on("f1*f1", "12:9,9,9;0,0,0");
        x.ride(SPARING, 3);
        x.ride(BEST, 0);
        x.beast(0, 0, 2, 9999);
        Due.is("17 who has less already is not ridden", x.tried(0, 0), 50);
        Due.is("17 a BEST rides it", x.tried(1, 0), 18);
        x.beast(0, 1, 3, 9999);
        goes("19 who has just that is ridden", x, 0, 0, "ow", "-1");
        Due.is("17 one more by then", x.tried(0, 0), 34);
    }

    // ---- how BEASTS are left

    private static void notRidden() {
        FreshHorses x = Due.ready();
        x.ride(EVEN, 0);
        x.beast(0, 0, 4, 0);
        x.beast(0, 0, 1, 100);
        Due.is("18 not ridden: where it stands", x.left(0, 160, 1, 0), 0);
        Due.is("18 not ridden: strength AT T", x.left(0, 160, 1, 1), 3);
        Due.is("18 not ridden", x.left(0, 160, 1, 2), 0);
        Due.is("20 ridden", x.ridden(0, 160), 63);
        Due.is("20 not ridden: PLACE", x.about(1, 1), 0);
        Due.is("20 not ridden: its strength SINCE", x.about(1, 2), 1);
        Due.is("20 not ridden: its SINCE", x.about(1, 3), 100);
        Due.is("15 not ridden: rested as ever", x.strength(1, 160), 3);
    }

    private static void sinceLeft() {
        FreshHorses x = on("f1*f1*f1", "2:5,5,5;1,1,1");
        x.ride(EVEN, 0);
        x.beast(0, 0, 1, 9999);
        x.beast(0, 1, 2, 9999);
        x.beast(0, 2, 1, 9999);
        Due.is("20 MINUTES", x.ridden(0, 1000), 15);
        Due.is("20 the first: when it was left", x.about(0, 3), 1005);
        Due.is("20 the second: when it came to THE END", x.about(1, 3), 1015);
        Due.is("20 the third was not ridden", x.about(2, 3), 9999);
        int[][] due = {{1, 0}, {3, 0}, {2, 1}};
        for (int b = 0; b < 3; b++) {
            Due.is("20 PLACE of " + b, x.about(b, 1), due[b][0]);
            Due.is("20 strength of " + b, x.about(b, 2), due[b][1]);
        }
        Due.is("15 it rests from then", x.strength(0, 1034), 0);
        Due.is("15 it has one more then", x.strength(0, 1035), 1);
    }

    private static void ridesOfBeastsNotThere() {
        FreshHorses x = on("f2*f1", "4:5,5,5;0,0,3");
        x.ride(EVEN, 2);
        x.ride(PRESS, 0);
        x.ride(BEST, 0);
        x.beast(0, 0, 4, 0);
        x.lead(0, 2);
        for (int ride = 0; ride < 3; ride++) Due.is("17 at THE END it is not taken", x.tried(ride, 0), 75);
        FreshHorses y = on("f2*f1", "4:5,5,5;3,3,3");
        y.ride(EVEN, 2);
        y.ride(PRESS, 0);
        y.ride(BEST, 0);
        y.beast(0, 0, 4, 0);
        y.ridden(0, 0);
        Due.is("20 LOST", y.about(0, 1), NONE);
        for (int ride = 0; ride < 3; ride++) Due.is("17 LOST it is not taken", y.tried(ride, 900), 75);
        Due.is("18 LOST already: NONE", y.left(0, 900, 0, 0), NONE);
        Due.is("18 LOST already: strength AT T", y.left(0, 900, 0, 1), 4);
        Due.is("18 LOST already: not ridden", y.left(0, 900, 0, 2), 0);
    }
}
