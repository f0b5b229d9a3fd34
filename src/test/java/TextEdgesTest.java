import java.util.regex.Matcher;
import java.util.regex.Pattern;

/** Part 1 and promises 1 to 12, sentence by sentence: the last that is allowed, the first that is not. */
public final class TextEdgesTest {
    private static final int OUTSIDE = FreshHorses.OUTSIDE, STATE = FreshHorses.STATE, FULL = FreshHorses.FULL;
    private static final int UNKNOWN = FreshHorses.UNKNOWN, NONE = FreshHorses.NONE;
    private static final int[] FAR_OFF = {-1, Integer.MIN_VALUE, Integer.MAX_VALUE};

    public static void main(String[] args) {
        bytes();
        behindAZero();
        ninety();
        blanks();
        nothingOfAnOldPage();
        faultsOfNone();
        roadLetters();
        roadMiles();
        roadStars();
        sortLetters();
        sortNumbers();
        toldLetters();
        toldNumbers();
        places();
        mostMiles();
        roadRefused();
        roadGone();
        roadsReadOften();
        sortsUpToFour();
        sortRefused();
        ridesUpToEight();
        rideNumbers();
        toldRefused();
        toldAnyLength();
        casts();
        roadToldEdges();
        sortToldEdges();
        takesMore();
        takesEdges();
        Due.end();
    }

    private static String of(int code, int many) {
        StringBuilder text = new StringBuilder();
        for (int i = 0; i < many; i++) text.append((char) code);
        return text.toString();
    }

    private static String stars(int many) {
        return "f1*".repeat(many);
    }

    /** Of all letters just those of a text can come behind another text. */
    private static void onlyComes(int sort, String ahead, String can) {
        for (int code = 1; code <= 126; code++) {
            FreshHorses x = new FreshHorses();
            int due = ahead.length() + (can.indexOf(code) >= 0 ? 1 : 0);
            Due.is("4 fault(" + sort + ") of " + ahead + " and code " + code, Due.fault(x, sort, ahead + (char) code), due);
        }
    }

    // ---- THE PAGE

    private static void bytes() {
        for (int at = 0; at < 8; at++) {
            long ahead = Due.word(of('a', at));
            for (int code : new int[] {1, 126}) {
                Due.is("2 code " + code + " in byte " + at, new FreshHorses().letters(ahead | (long) code << 8 * at), at + 1);
            }
            for (int code : new int[] {127, 128, 129, 254, 255}) {
                FreshHorses x = new FreshHorses();
                long w = ahead | (long) code << 8 * at;
                Due.refused(x, "2 code " + code + " in byte " + at, OUTSIDE, () -> x.letters(w));
                Due.is("2 no letter of it comes", x.count(4), 0);
            }
        }
    }

    private static void behindAZero() {
        for (int zero = 0; zero < 7; zero++) {
            for (int behind = zero + 1; behind < 8; behind++) {
                FreshHorses x = new FreshHorses();
                long w = Due.word(of('a', zero)) | 1L << 8 * behind;
                Due.refused(x, "2 a 0 in byte " + zero + ", 1 in byte " + behind, OUTSIDE, () -> x.letters(w));
            }
        }
        FreshHorses x = new FreshHorses();
        Due.is("2 no letters", x.letters(0), 0);
        Due.is("2 one letter", x.letters('f'), 1);
        Due.is("2 no letters behind one", x.letters(0), 1);
    }

    private static FreshHorses withPage(int many) {
        FreshHorses x = new FreshHorses();
        Due.write(x, of('a', many));
        return x;
    }

    private static void ninety() {
        for (int many = 0; many <= 8; many++) {
            long fits = Due.word(of('b', many));
            Due.is("2 up to 90 by " + many, withPage(90 - many).letters(fits), 90);
            if (many == 0) continue;
            FreshHorses x = withPage(91 - many);
            Due.refused(x, "2 91 by " + many, FULL, () -> x.letters(fits));
            Due.is("2 no letter of it comes", x.count(4), 91 - many);
        }
        FreshHorses x = withPage(90);
        Due.is("2 none behind 90", x.letters(0), 90);
        Due.refused(x, "2 OUTSIDE ahead of FULL, a byte", OUTSIDE, () -> x.letters(127));
        Due.refused(x, "2 OUTSIDE ahead of FULL, behind a 0", OUTSIDE, () -> x.letters(0x100));
    }

    private static void blanks() {
        Due.is("3 of none", new FreshHorses().blank(), 0);
        Due.is("3 of one", withPage(1).blank(), 1);
        FreshHorses x = withPage(90);
        Due.is("3 of 90", x.blank(), 90);
        Due.is("3 of none then", x.blank(), 0);
        Due.is("3 letters come from the beginning then", x.letters(Due.word("f1")), 2);
        Due.is("3 nothing of the old ones is read", x.road(), 2);
        FreshHorses y = Due.ready();
        y.beast(0, 0, 1, 0);
        y.letter(3);
        long before = y.digest();
        Due.write(y, "abc");
        y.blank();
        Due.is("3 all else stays", y.digest(), before);
    }

    /** A text that lacks its last letter, where that stood on THE PAGE ahead of blank(). */
    private static void nothingOfAnOldPage() {
        String[] whole = {"f1h2", "4:5,6,7;8,9,0", "wc1t"};
        for (int sort = 0; sort < 3; sort++) {
            FreshHorses x = new FreshHorses();
            Due.write(x, whole[sort]);
            x.blank();
            int less = whole[sort].length() - 1;
            Due.write(x, whole[sort].substring(0, less));
            Due.is("4 no letter behind the last is looked at", x.fault(sort), less);
            int s = sort;
            Due.refused(x, "5, 6, 8 nothing of an old PAGE is read", STATE, () -> s == 0 ? x.road() : s == 1 ? x.sort() : x.tell());
        }
    }

    private static void faultsOfNone() {
        FreshHorses x = new FreshHorses();
        for (int sort = 0; sort < 3; sort++) Due.is("4 an empty page has none", x.fault(sort), 0);
        Due.write(x, "x");
        for (int sort = 0; sort < 3; sort++) Due.is("4 the first letter", x.fault(sort), 0);
        for (int sort : new int[] {-1, 3, Integer.MIN_VALUE, Integer.MAX_VALUE}) {
            Due.refused(x, "4 of " + sort, OUTSIDE, () -> x.fault(sort));
        }
        FreshHorses y = Due.ready();
        Due.write(y, "f1*4:c1w");
        long before = y.digest();
        for (int sort = 0; sort < 3; sort++) y.fault(sort);
        Due.is("4 it changes nothing", y.digest(), before);
    }

    // ---- what can come where

    private static void roadLetters() {
        onlyComes(0, "", "fhs");
        onlyComes(0, "f", "123456789");
        onlyComes(0, "h", "123456789");
        onlyComes(0, "s", "123456789");
        onlyComes(0, "f1", "fhs*");
        onlyComes(0, "f1*", "fhs");
        onlyComes(0, "f1*h", "123456789");
    }

    private static String miles(int many) {
        StringBuilder text = new StringBuilder();
        for (int left = many; left > 0; left -= Math.min(9, left)) text.append('f').append(Math.min(9, left));
        return text.toString();
    }

    private static void roadMiles() {
        for (int ahead = 0; ahead < 24; ahead++) {
            for (int digit = 1; digit <= 9; digit++) {
                String text = miles(ahead) + "h" + digit;
                int due = text.length() - (ahead + digit <= 24 ? 0 : 1);
                Due.is("4 24 MILES at most: " + text, Due.fault(new FreshHorses(), 0, text), due);
                Due.is("5 24 MILES at most: " + text, Due.road(new FreshHorses(), text), ahead + digit <= 24 ? 2 : STATE);
            }
        }
        onlyComes(0, miles(23), "fhs*");
        onlyComes(0, miles(23) + "f", "1");
        onlyComes(0, miles(24), "*");
        onlyComes(0, miles(24) + "*", "");
    }

    private static void roadStars() {
        onlyComes(0, stars(6), "fhs");
        onlyComes(0, stars(6) + "f1", "fhs*");
        onlyComes(0, stars(7), "");
        onlyComes(0, stars(6) + "f1h2s3*", "");
    }

    private static final String SORT_FORM = "([1-9]|1[0-2]):(([1-9]|[12][0-9]|30),){2}([1-9]|[12][0-9]|30);[0-9],[0-9],[0-9]";
    private static final String TOLD_FORM = "((c([0-9]|1[01])|d)?[wtro])+";

    /** Where a text leaves the form: behind its longest beginning with which a text of the form begins. */
    private static int faultBy(String form, String text) {
        for (int i = 1; i <= text.length(); i++) {
            Matcher m = Pattern.compile(form).matcher(text.substring(0, i));
            if (!m.matches() && !m.hitEnd()) return i - 1;
        }
        return text.length();
    }

    private static void byForm(int sort, String form, String ahead) {
        for (int code = 1; code <= 126; code++) {
            FreshHorses x = new FreshHorses();
            String text = ahead + (char) code;
            Due.is("4 fault(" + sort + ") of " + ahead + " and code " + code, Due.fault(x, sort, text), faultBy(form, text));
        }
    }

    private static void sortLetters() {
        String[] whole = {"4:5,6,7;8,9,0", "12:30,29,10;0,0,9", "1:1,1,1;0,0,0", "10:20,2,3;1,2,3"};
        for (String text : whole) {
            for (int i = 0; i <= text.length(); i++) byForm(1, SORT_FORM, text.substring(0, i));
        }
        onlyComes(1, "", "123456789");
        onlyComes(1, "1", "012:");
        onlyComes(1, "2", ":");
        onlyComes(1, "12", ":");
        onlyComes(1, "4:", "123456789");
        onlyComes(1, "4:2", "0123456789,");
        onlyComes(1, "4:3", "0,");
        onlyComes(1, "4:30", ",");
        onlyComes(1, "4:4", ",");
        onlyComes(1, "4:1,1,3", "0;");
        onlyComes(1, "4:1,1,1;", "0123456789");
        onlyComes(1, "4:1,1,1;0", ",");
        onlyComes(1, "4:1,1,1;0,0,0", "");
    }

    private static void sortNumbers() {
        for (int n = 0; n <= 130; n++) {
            boolean strength = n >= 1 && n <= 12;
            boolean minutes = n >= 1 && n <= 30;
            boolean loss = n <= 9;
            Due.is("6 STRENGTH " + n, Due.sort(new FreshHorses(), n + ":1,1,1;0,0,0"), strength ? 0 : STATE);
            Due.is("6 MINUTES " + n, Due.sort(new FreshHorses(), "1:" + n + ",1,1;0,0,0"), minutes ? 0 : STATE);
            Due.is("6 MINUTES 2 " + n, Due.sort(new FreshHorses(), "1:1," + n + ",1;0,0,0"), minutes ? 0 : STATE);
            Due.is("6 MINUTES 3 " + n, Due.sort(new FreshHorses(), "1:1,1," + n + ";0,0,0"), minutes ? 0 : STATE);
            Due.is("6 LOSS " + n, Due.sort(new FreshHorses(), "1:1,1,1;" + n + ",0,0"), loss ? 0 : STATE);
            Due.is("6 LOSS 2 " + n, Due.sort(new FreshHorses(), "1:1,1,1;0," + n + ",0"), loss ? 0 : STATE);
            Due.is("6 LOSS 3 " + n, Due.sort(new FreshHorses(), "1:1,1,1;0,0," + n), loss ? 0 : STATE);
        }
        for (String zeroAhead : new String[] {"01:1,1,1;0,0,0", "1:01,1,1;0,0,0", "1:1,01,1;0,0,0", "1:1,1,01;0,0,0"}) {
            Due.is("6 a 0 ahead " + zeroAhead, Due.sort(new FreshHorses(), zeroAhead), STATE);
        }
    }

    private static void toldLetters() {
        for (String ahead : new String[] {"", "w", "c", "c0", "c1", "c2", "c9", "c10", "c11", "d", "c1w", "do", "wc", "oc1"}) {
            byForm(2, TOLD_FORM, ahead);
        }
        onlyComes(2, "", "cdwtro");
        onlyComes(2, "o", "cdwtro");
        onlyComes(2, "c", "0123456789");
        onlyComes(2, "c0", "wtro");
        onlyComes(2, "c1", "01wtro");
        onlyComes(2, "c2", "wtro");
        onlyComes(2, "c11", "wtro");
        onlyComes(2, "d", "wtro");
    }

    private static void toldNumbers() {
        for (int n = 0; n <= 120; n++) {
            Due.is("8 BEAST " + n, Due.tell(new FreshHorses(), "c" + n + "w"), n <= 11 ? 0 : STATE);
            Due.is("8 a 0 ahead of " + n, Due.tell(new FreshHorses(), "c0" + n + "w"), STATE);
        }
    }

    // ---- THE ROAD

    private static void places() {
        for (int many = 0; many <= 7; many++) {
            FreshHorses x = new FreshHorses();
            if (many > 0) {
                Due.is("5 THE END is the last *: " + many, Due.road(x, stars(many)), many + 1);
                placesLie(x, many + 1);
            }
            if (many < 7) {
                Due.is("5 THE END behind the last *: " + many, Due.road(x, stars(many) + "f1"), many + 2);
                placesLie(x, many + 2);
            } else {
                Due.is("5 no ITEM behind the seventh", Due.road(x, stars(many) + "f1"), STATE);
            }
        }
        FreshHorses y = new FreshHorses();
        Due.is("5 one MILE", Due.road(y, "s1"), 2);
        Due.is("10 PLACE 0 lies at MILE 0", y.roadTold(10), 0);
        Due.is("10 THE END lies behind the last MILE", y.roadTold(11), 1);
        Due.is("5 ITEMS without * between", Due.road(y, "f2h3*s4f1"), 3);
        Due.is("10 the * lies behind five", y.roadTold(11), 5);
    }

    private static void placesLie(FreshHorses x, int many) {
        Due.is("10 PLACES", x.roadTold(1), many);
        for (int p = 0; p < 8; p++) Due.is("10 PLACE " + p + " of " + many, x.roadTold(10 + p), p < many ? p : NONE);
    }

    private static void mostMiles() {
        FreshHorses x = new FreshHorses();
        Due.is("5 24 MILES", Due.road(x, "f9h9s6*"), 2);
        Due.is("10 24 MILES", x.roadTold(0), 24);
        Due.is("10 THE END of 24", x.roadTold(11), 24);
        for (int i = 0; i < 24; i++) Due.is("10 GROUND of MILE " + i, x.roadTold(30 + i), i / 9);
        Due.road(x, "h9s9f5");
        Due.is("10 GROUND of MILE 22, the last", x.roadTold(52), 0);
        Due.is("10 GROUND of MILE 23, which is none", x.roadTold(53), NONE);
    }

    private static FreshHorses full() {
        FreshHorses x = Due.ready();
        x.ride(3, 0);
        x.beast(0, 1, 3, 5);
        for (int p = 0; p < 3; p++) x.hay(p, 7 + p);
        x.letter(9);
        x.image();
        return x;
    }

    private static void roadRefused() {
        for (String text : new String[] {"", "f", "f1h", "f1x", "*", "f0", miles(24) + "f", stars(7) + "f1", "4:1,1,1;0,0,0"}) {
            FreshHorses x = full();
            Due.write(x, text);
            Due.refused(x, "5 no ROAD: " + text, STATE, x::road);
            Due.is("5 THE PAGE stays", x.count(4), text.length());
            Due.is("5 the IMAGE stays", x.restore(), 1);
        }
    }

    private static void roadGone() {
        FreshHorses x = full();
        Due.tell(x, "c0w");
        Due.is("5 another", Due.road(x, "f1*f1*f1*f1"), 5);
        Due.is("5 THE PAGE is empty", x.count(4), 0);
        Due.is("5 no BEASTS", x.count(1), 0);
        Due.is("5 no BEAST 0", x.about(0, 0), UNKNOWN);
        Due.is("5 no BEASTS are LOST", x.count(5), 0);
        Due.is("5 no LETTERS", x.count(3), 0);
        Due.is("5 a LETTER can come at 0 again", x.letter(0), 1);
        for (int p = 0; p < 4; p++) Due.is("5 no HAY of " + p, x.hay(p, 1), 0);
        Due.is("5 SORTS stay", x.count(0), 1);
        Due.is("5 RIDES stay", x.count(2), 2);
        Due.is("5 a TOLD stays TOLD", x.as(1, 5), 1);
        Due.is("5 the GROUND of the old one is gone", x.roadTold(34), NONE);
        Due.is("5 and on another one it can be", Due.road(x, "f1"), 2);
        x.beast(0, 0, 4, 0);
        Due.is("5 the STEPS of a TOLD stay", x.tried(1, 0), 10);
        FreshHorses y = new FreshHorses();
        y.letter(50);
        Due.road(y, "f1");
        Due.is("5 LETTERS that came without a ROAD are gone", y.count(3), 0);
    }

    private static void roadsReadOften() {
        FreshHorses x = Due.ready();
        x.set(0, 0, 0);
        x.ride(0, 0);
        x.fewest(0, 0, 0);
        for (int i = 2; i <= 20; i++) {
            Due.is("5 again", Due.road(x, "f1"), 2);
            Due.is("33 how often", x.count(6), i);
        }
        Due.is("33 set() stays counted", x.count(7), 1);
        Due.is("33 fewest() stays counted", x.count(8), 1);
    }

    // ---- SORTS and RIDES

    private static void sortsUpToFour() {
        FreshHorses x = new FreshHorses();
        for (int s = 0; s < 4; s++) {
            Due.is("6 number", Due.sort(x, (s + 1) + ":1,2,3;4,5,6"), s);
            Due.is("6 THE PAGE is empty", x.count(4), 0);
        }
        Due.write(x, "5:1,2,3;4,5,6");
        Due.refused(x, "6 a fifth", FULL, x::sort);
        Due.is("6 THE PAGE stays", x.count(4), 13);
        x.blank();
        Due.write(x, "5:1,2,3;4,5");
        Due.refused(x, "6 STATE ahead of FULL", STATE, x::sort);
        for (int s = 0; s < 4; s++) Due.is("6 each is its own", x.sortTold(s, 0), s + 1);
    }

    private static void sortRefused() {
        String whole = "12:30,29,28;7,8,9";
        for (int i = 0; i < whole.length(); i++) {
            FreshHorses x = new FreshHorses();
            Due.write(x, whole.substring(0, i));
            Due.refused(x, "6 no SORT: " + whole.substring(0, i), STATE, x::sort);
        }
        FreshHorses x = new FreshHorses();
        Due.write(x, whole + "w");
        Due.refused(x, "6 no SORT, a letter more", STATE, x::sort);
        Due.is("6 THE PAGE stays", x.blank(), whole.length() + 1);
    }

    private static void ridesUpToEight() {
        FreshHorses x = new FreshHorses();
        for (int r = 0; r < 8; r++) Due.is("7 and 8 number", r % 2 == 0 ? x.ride(2, 0) : Due.tell(x, "w"), r);
        Due.refused(x, "7 a ninth", FULL, () -> x.ride(0, 0));
        Due.refused(x, "7 kind ahead of FULL", OUTSIDE, () -> x.ride(5, 0));
        Due.refused(x, "7 n ahead of FULL", OUTSIDE, () -> x.ride(2, 1));
        Due.write(x, "w");
        Due.refused(x, "8 a ninth", FULL, x::tell);
        Due.is("8 THE PAGE stays", x.count(4), 1);
        Due.write(x, "c");
        Due.refused(x, "8 STATE ahead of FULL", STATE, x::tell);
    }

    private static void rideNumbers() {
        int[] most = {2, 26, 0, 0, 12};
        for (int kind = 0; kind < 5; kind++) {
            int k = kind;
            for (int n = 0; n <= most[kind]; n++) Due.is("7 KIND " + kind + " n " + n, new FreshHorses().ride(kind, n), 0);
            FreshHorses x = new FreshHorses();
            Due.refused(x, "7 KIND " + kind + " n above", OUTSIDE, () -> x.ride(k, most[k] + 1));
            for (int n : FAR_OFF) Due.refused(x, "7 KIND " + kind + " n " + n, OUTSIDE, () -> x.ride(k, n));
        }
        FreshHorses x = new FreshHorses();
        Due.refused(x, "7 KIND 5, a TOLD", OUTSIDE, () -> x.ride(5, 0));
        for (int kind : FAR_OFF) Due.refused(x, "7 KIND " + kind, OUTSIDE, () -> x.ride(kind, 0));
    }

    private static void toldRefused() {
        for (String text : new String[] {"", "c", "c1", "c11", "d", "wc", "wd", "x", "wx", "c12w", "f1"}) {
            FreshHorses x = new FreshHorses();
            Due.write(x, text);
            Due.refused(x, "8 no TOLD: " + text, STATE, x::tell);
            Due.is("8 THE PAGE stays", x.count(4), text.length());
        }
    }

    private static void toldAnyLength() {
        Due.is("8 one STEP", Due.tell(new FreshHorses(), "o"), 0);
        Due.is("8 90 STEPS", Due.tell(new FreshHorses(), of('o', 90)), 0);
        Due.is("8 STEPS that no RIDE could go", Due.tell(new FreshHorses(), "doc11oc0o"), 0);
        FreshHorses x = new FreshHorses();
        Due.tell(x, of('o', 24));
        Due.tell(x, of('o', 25));
        Due.road(x, "f9h9s6");
        Due.is("17 24 STEPS for 24 MILES", x.tried(0, 0), 600);
        Due.is("21 25 STEPS for 24 MILES", x.wrong(1, 0), 24);
    }

    private static void casts() {
        FreshHorses x = new FreshHorses();
        Due.refused(x, "9 no RIDES", UNKNOWN, () -> x.as(0, 0));
        for (int kind = 0; kind < 5; kind++) x.ride(kind, 0);
        Due.tell(x, "o");
        String[] casts = {"0", "01", "02", "03", "034", "05"};
        for (int ride = 0; ride < 6; ride++) {
            for (int kind = 0; kind < 6; kind++) {
                int due = casts[ride].indexOf('0' + kind) >= 0 ? ride : NONE;
                Due.is("9 RIDE " + ride + " as KIND " + kind, x.as(ride, kind), due);
            }
        }
        Due.refused(x, "9 the first that names nothing", UNKNOWN, () -> x.as(6, 0));
        Due.refused(x, "9 the first KIND that is none", OUTSIDE, () -> x.as(5, 6));
        for (int bad : FAR_OFF) {
            Due.refused(x, "9 RIDE " + bad, UNKNOWN, () -> x.as(bad, 0));
            Due.refused(x, "9 KIND " + bad, OUTSIDE, () -> x.as(0, bad));
            Due.refused(x, "9 UNKNOWN ahead of OUTSIDE", UNKNOWN, () -> x.as(6, bad));
        }
    }

    // ---- what is told of them

    private static void roadToldEdges() {
        FreshHorses bare = new FreshHorses();
        for (int what : new int[] {0, 1, 10, 30, 2, -1}) Due.refused(bare, "10 no ROAD", STATE, () -> bare.roadTold(what));
        FreshHorses x = Due.ready();
        for (int what : new int[] {-1, 2, 9, 18, 29, 54, Integer.MIN_VALUE, Integer.MAX_VALUE}) {
            Due.refused(x, "10 what " + what, OUTSIDE, () -> x.roadTold(what));
        }
        int[][] due = {{0, 6}, {1, 4}, {10, 0}, {13, 6}, {14, NONE}, {17, NONE}, {30, 0}, {35, 0}, {36, NONE}, {53, NONE}};
        for (int[] d : due) Due.is("10 what " + d[0], x.roadTold(d[0]), d[1]);
    }

    private static void sortToldEdges() {
        FreshHorses x = new FreshHorses();
        Due.refused(x, "11 no SORTS", UNKNOWN, () -> x.sortTold(0, 0));
        Due.sort(x, "12:30,1,2;9,0,8");
        int[] due = {12, 30, 1, 2, 9, 0, 8};
        for (int what = 0; what < 7; what++) Due.is("11 what " + what, x.sortTold(0, what), due[what]);
        Due.refused(x, "11 what 7", OUTSIDE, () -> x.sortTold(0, 7));
        Due.refused(x, "11 SORT 1", UNKNOWN, () -> x.sortTold(1, 0));
        for (int bad : FAR_OFF) {
            Due.refused(x, "11 what " + bad, OUTSIDE, () -> x.sortTold(0, bad));
            Due.refused(x, "11 SORT " + bad, UNKNOWN, () -> x.sortTold(bad, 0));
            Due.refused(x, "11 UNKNOWN ahead of OUTSIDE", UNKNOWN, () -> x.sortTold(1, bad));
        }
    }

    private static void takesMore() {
        FreshHorses x = new FreshHorses();
        Due.sort(x, "12:30,20,1;9,0,5");
        int[][] minutes = {{30, 20, 1}, {32, 22, 3}, {31, 21, 2}};
        int[][] losses = {{9, 0, 5}, {9, 1, 6}, {10, 1, 6}};
        for (int ground = 0; ground < 3; ground++) {
            for (int pace = 0; pace < 3; pace++) {
                Due.is("12 MINUTES on " + ground + " at " + pace, x.takes(0, ground, pace, 0), minutes[ground][pace]);
                Due.is("12 strength on " + ground + " at " + pace, x.takes(0, ground, pace, 1), losses[ground][pace]);
            }
        }
    }

    private static void takesEdges() {
        FreshHorses x = new FreshHorses();
        Due.refused(x, "12 no SORTS", UNKNOWN, () -> x.takes(0, 0, 0, 0));
        Due.sort(x, Due.SORT);
        Due.refused(x, "12 SORT 1", UNKNOWN, () -> x.takes(1, 0, 0, 0));
        Due.refused(x, "12 GROUND 3", OUTSIDE, () -> x.takes(0, 3, 0, 0));
        Due.refused(x, "12 PACE 3", OUTSIDE, () -> x.takes(0, 0, 3, 0));
        Due.refused(x, "12 what 2", OUTSIDE, () -> x.takes(0, 0, 0, 2));
        for (int bad : FAR_OFF) {
            Due.refused(x, "12 SORT " + bad, UNKNOWN, () -> x.takes(bad, 0, 0, 0));
            Due.refused(x, "12 GROUND " + bad, OUTSIDE, () -> x.takes(0, bad, 0, 0));
            Due.refused(x, "12 PACE " + bad, OUTSIDE, () -> x.takes(0, 0, bad, 0));
            Due.refused(x, "12 what " + bad, OUTSIDE, () -> x.takes(0, 0, 0, bad));
            Due.refused(x, "12 UNKNOWN ahead of OUTSIDE", UNKNOWN, () -> x.takes(1, bad, bad, bad));
        }
        Due.is("12 without a ROAD", x.takes(0, 2, 2, 1), 3);
    }
}
