/** Promises 1 to 12: THE PAGE, and the texts that are read from it. */
public final class TextsTest {
    public static void main(String[] args) {
        newObject();
        letters();
        roadFaults();
        sortFaults();
        toldFaults();
        roads();
        sorts();
        rides();
        kinds();
        Due.end();
    }

    private static void newObject() {
        int[] constants = {FreshHorses.NONE, FreshHorses.UNKNOWN, FreshHorses.OUTSIDE, FreshHorses.STATE, FreshHorses.FULL};
        int[] due = {-1, -101, -102, -103, -104};
        for (int i = 0; i < 5; i++) Due.is("1 constant " + i, constants[i], due[i]);
        FreshHorses x = new FreshHorses();
        for (int what = 0; what <= 8; what++) Due.is("1 count " + what, x.count(what), 0);
        Due.is("1 roadTold", x.roadTold(0), FreshHorses.STATE);
        Due.is("1 sortTold", x.sortTold(0, 0), FreshHorses.UNKNOWN);
        Due.is("1 tried", x.tried(0, 0), FreshHorses.UNKNOWN);
        Due.is("1 restore", x.restore(), FreshHorses.STATE);
    }

    private static void letters() {
        FreshHorses x = new FreshHorses();
        Due.is("2 none", x.letters(0), 0);
        Due.is("2 lowest first", x.letters(Due.word("f1")), 2);
        Due.is("2 lowest first, a road", x.fault(0), 2);
        Due.is("2 eight", x.letters(Due.word("~~~~~~~~")), 10);
        Due.is("2 127", x.letters(127), FreshHorses.OUTSIDE);
        Due.is("2 highest byte", x.letters(Long.MIN_VALUE), FreshHorses.OUTSIDE);
        Due.is("2 behind a 0", x.letters(0x410041L), FreshHorses.OUTSIDE);
        Due.is("2 behind a first 0", x.letters(0x4100L), FreshHorses.OUTSIDE);
        Due.is("2 all ones", x.letters(-1), FreshHorses.OUTSIDE);
        for (int i = 0; i < 9; i++) x.letters(Due.word("abcdefgh"));
        Due.is("2 82", x.count(4), 82);
        Due.is("2 90", x.letters(Due.word("abcdefgh")), 90);
        Due.is("2 full", x.letters(1), FreshHorses.FULL);
        Due.is("2 outside ahead of full", x.letters(255), FreshHorses.OUTSIDE);
        Due.is("2 none more", x.letters(0), 90);
        Due.is("3 blank", x.blank(), 90);
        Due.is("3 blank again", x.blank(), 0);
        for (int i = 0; i < 11; i++) x.letters(Due.word("abcdefgh"));
        Due.is("2 above 90", x.letters(Due.word("abc")), FreshHorses.FULL);
        Due.is("2 unchanged", x.count(4), 88);
    }

    private static void faultIs(int sort, String text, int due) {
        Due.is("4 fault(" + sort + ") of " + text, Due.fault(new FreshHorses(), sort, text), due);
    }

    private static void roadFaults() {
        faultIs(0, "", 0);
        faultIs(0, "f", 1);
        faultIs(0, "f9h9s6*", 7);
        faultIs(0, "f9h9s7", 5);
        faultIs(0, "f9h9s6f", 6);
        faultIs(0, "f9h9s6*f", 7);
        faultIs(0, "f9h9s6**", 7);
        faultIs(0, "f0", 1);
        faultIs(0, "ff", 1);
        faultIs(0, "*", 0);
        faultIs(0, "1", 0);
        faultIs(0, "f12", 2);
        faultIs(0, "F1", 0);
        faultIs(0, "f1*f1*f1*f1*f1*f1*f1*", 21);
        faultIs(0, "f1*f1*f1*f1*f1*f1*f1*f", 21);
        faultIs(0, "f1*f1*f1*f1*f1*f1*f1f1f1*", 25);
        Due.is("4 outside", new FreshHorses().fault(3), FreshHorses.OUTSIDE);
        Due.is("4 outside below", new FreshHorses().fault(-1), FreshHorses.OUTSIDE);
    }

    private static void sortFaults() {
        faultIs(1, "", 0);
        faultIs(1, Due.SORT, 14);
        faultIs(1, "12:30,29,1;9,0,9", 16);
        faultIs(1, "13:", 1);
        faultIs(1, "10:", 3);
        faultIs(1, "0", 0);
        faultIs(1, "20", 1);
        faultIs(1, "4:0", 2);
        faultIs(1, "4:31", 3);
        faultIs(1, "4:30", 4);
        faultIs(1, "4:100", 4);
        faultIs(1, "4:40", 3);
        faultIs(1, "4:29;", 4);
        faultIs(1, "4,", 1);
        faultIs(1, ":", 0);
        faultIs(1, "4:,", 2);
        faultIs(1, "4:1,1,1,", 7);
        faultIs(1, "4:1,1,1;00", 9);
        faultIs(1, "4:1,1,1;10", 9);
        faultIs(1, "4:1,1,1;1;", 9);
        faultIs(1, "4:1,1,1;1,1,1,", 13);
        faultIs(1, "4:1,1,1;1,1,11", 13);
    }

    private static void toldFaults() {
        faultIs(2, "", 0);
        faultIs(2, "wtro", 4);
        faultIs(2, "c0wc9tc10rc11o", 14);
        faultIs(2, "c12", 2);
        faultIs(2, "c00", 2);
        faultIs(2, "c01", 2);
        faultIs(2, "c20", 2);
        faultIs(2, "c110", 3);
        faultIs(2, "cw", 1);
        faultIs(2, "cd", 1);
        faultIs(2, "dwdo", 4);
        faultIs(2, "dd", 1);
        faultIs(2, "dc", 1);
        faultIs(2, "d1", 1);
        faultIs(2, "c1c", 2);
        faultIs(2, "c1d", 2);
        faultIs(2, "1", 0);
        faultIs(2, "w1", 1);
        faultIs(2, "x", 0);
        StringBuilder longest = new StringBuilder();
        for (int i = 0; i < 90; i++) longest.append('w');
        faultIs(2, longest.toString(), 90);
    }

    private static void roads() {
        FreshHorses x = new FreshHorses();
        Due.is("5 empty", x.road(), FreshHorses.STATE);
        Due.is("5 half an item", Due.road(x, "f1h"), FreshHorses.STATE);
        Due.is("5 the page stays", x.count(4), 3);
        Due.is("5 a fault", Due.road(x, "f1x"), FreshHorses.STATE);
        Due.is("5 the end untold", Due.road(x, Due.ROAD), 4);
        Due.is("5 the page is empty", x.count(4), 0);
        Due.is("5 read", x.count(6), 1);
        int[] due = {6, 4};
        for (int what = 0; what < 2; what++) Due.is("10 " + what, x.roadTold(what), due[what]);
        int[] miles = {0, 2, 4, 6, -1, -1, -1, -1};
        for (int p = 0; p < 8; p++) Due.is("10 place " + p, x.roadTold(10 + p), miles[p]);
        int[] grounds = {0, 0, 1, 2, 0, 0};
        for (int i = 0; i < 24; i++) Due.is("10 mile " + i, x.roadTold(30 + i), i < 6 ? grounds[i] : -1);
        for (int what : new int[] {-1, 2, 9, 18, 29, 54, Integer.MAX_VALUE, Integer.MIN_VALUE}) {
            Due.is("10 outside " + what, x.roadTold(what), FreshHorses.OUTSIDE);
        }
        Due.is("10 state ahead", new FreshHorses().roadTold(2), FreshHorses.STATE);
        Due.is("5 the end told", Due.road(x, "s1*"), 2);
        Due.is("5 eight", Due.road(x, "f1*f1*f1*f1*f1*f1*f1*"), 8);
        Due.is("5 eight, untold end", Due.road(x, "f1*f1*f1*f1*f1*f1*f1f8"), 8);
        Due.is("10 miles", x.roadTold(0), 15);
        Due.is("10 the last place", x.roadTold(17), 15);
        another();
    }

    private static void another() {
        FreshHorses x = Due.ready();
        Due.tell(x, "c0w");
        x.ride(0, 1);
        x.beast(0, 0, 4, 0);
        x.hay(0, 9);
        x.letter(5);
        Due.is("5 refused", Due.road(x, "f"), FreshHorses.STATE);
        Due.is("5 refusal changes nothing", x.count(1) + x.count(3), 2);
        Due.is("5 another", Due.road(x, "f1"), 2);
        Due.is("5 beasts gone", x.count(1), 0);
        Due.is("5 letters gone", x.count(3), 0);
        Due.is("5 hay gone", x.hay(0, 1), 0);
        Due.is("5 rides stay", x.count(2), 2);
        Due.is("5 sorts stay", x.count(0), 1);
        x.beast(0, 0, 4, 0);
        Due.is("5 the told ride stays", x.tried(0, 0), 10);
    }

    private static void sorts() {
        FreshHorses x = new FreshHorses();
        Due.is("6 empty", x.sort(), FreshHorses.STATE);
        Due.is("6 not whole", Due.sort(x, "4:1,1,1;1,1,"), FreshHorses.STATE);
        Due.is("6 the page stays", x.blank(), 12);
        Due.is("6 first", Due.sort(x, Due.SORT), 0);
        Due.is("6 the page is empty", x.count(4), 0);
        Due.is("6 second", Due.sort(x, "12:30,20,10;9,8,7"), 1);
        int[] due = {12, 30, 20, 10, 9, 8, 7};
        for (int what = 0; what < 7; what++) Due.is("11 " + what, x.sortTold(1, what), due[what]);
        Due.is("11 outside", x.sortTold(1, 7), FreshHorses.OUTSIDE);
        Due.is("11 outside below", x.sortTold(1, -1), FreshHorses.OUTSIDE);
        Due.is("11 unknown ahead", x.sortTold(2, 7), FreshHorses.UNKNOWN);
        Due.is("11 unknown below", x.sortTold(-1, 0), FreshHorses.UNKNOWN);
        int[] minutes = {10, 6, 3, 12, 8, 5, 11, 7, 4};
        int[] losses = {0, 1, 2, 0, 2, 3, 1, 2, 3};
        for (int i = 0; i < 9; i++) {
            Due.is("12 minutes " + i, x.takes(0, i / 3, i % 3, 0), minutes[i]);
            Due.is("12 losses " + i, x.takes(0, i / 3, i % 3, 1), losses[i]);
        }
        Due.is("12 unknown ahead", x.takes(2, 3, 0, 0), FreshHorses.UNKNOWN);
        int[][] outside = {{3, 0, 0}, {-1, 0, 0}, {0, 3, 0}, {0, -1, 0}, {0, 0, 2}, {0, 0, -1}};
        for (int[] o : outside) Due.is("12 outside", x.takes(0, o[0], o[1], o[2]), FreshHorses.OUTSIDE);
        Due.sort(x, Due.SORT);
        Due.is("6 fourth", Due.sort(x, Due.SORT), 3);
        Due.is("6 full", Due.sort(x, Due.SORT), FreshHorses.FULL);
        Due.is("6 the page stays", x.count(4), 14);
        Due.is("6 state ahead of full", Due.sort(x, "4"), FreshHorses.STATE);
    }

    private static void rides() {
        FreshHorses x = new FreshHorses();
        int[] most = {2, 26, 0, 0, 12};
        for (int kind = 0; kind < 5; kind++) {
            Due.is("7 kind " + kind, x.ride(kind, most[kind]), kind);
            Due.is("7 above", x.ride(kind, most[kind] + 1), FreshHorses.OUTSIDE);
            Due.is("7 below", x.ride(kind, -1), FreshHorses.OUTSIDE);
        }
        Due.is("7 told", x.ride(5, 0), FreshHorses.OUTSIDE);
        Due.is("7 below", x.ride(-1, 0), FreshHorses.OUTSIDE);
        Due.is("8 empty", x.tell(), FreshHorses.STATE);
        Due.is("8 not whole", Due.tell(x, "wwc1"), FreshHorses.STATE);
        Due.is("8 the page stays", x.blank(), 4);
        Due.is("8 told", Due.tell(x, "wwc1r"), 5);
        Due.is("8 the page is empty", x.count(4), 0);
        x.ride(0, 0);
        Due.is("7 eighth", x.ride(0, 0), 7);
        Due.is("7 full", x.ride(0, 0), FreshHorses.FULL);
        Due.is("7 outside ahead of full", x.ride(0, 3), FreshHorses.OUTSIDE);
        Due.is("8 full", Due.tell(x, "w"), FreshHorses.FULL);
        Due.is("8 the page stays", x.count(4), 1);
        Due.is("8 state ahead of full", Due.tell(x, "x"), FreshHorses.STATE);
    }

    private static void kinds() {
        FreshHorses x = new FreshHorses();
        for (int kind = 0; kind < 5; kind++) x.ride(kind, 0);
        Due.tell(x, "o");
        for (int ride = 0; ride < 6; ride++) {
            for (int kind = 0; kind < 6; kind++) {
                boolean is = kind == 0 || kind == ride || ride == 4 && kind == 3;
                Due.is("9 as(" + ride + ", " + kind + ")", x.as(ride, kind), is ? ride : FreshHorses.NONE);
            }
        }
        Due.is("9 outside", x.as(0, 6), FreshHorses.OUTSIDE);
        Due.is("9 outside below", x.as(0, -1), FreshHorses.OUTSIDE);
        Due.is("9 unknown ahead", x.as(6, 6), FreshHorses.UNKNOWN);
        Due.is("9 unknown below", x.as(-1, 0), FreshHorses.UNKNOWN);
    }
}
