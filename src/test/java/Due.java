/** What the tests share: they count answers that are not as due, and put texts on THE PAGE. */
final class Due {
    static final String ROAD = "f2*h1s1*f2";
    static final String SORT = "4:10,6,3;0,1,2";
    private static int wrong = 0;
    private static int asked = 0;

    private Due() {
    }

    static void is(String call, long got, long want) {
        asked++;
        if (got == want) return;
        wrong++;
        System.out.println(call + " answered " + got + ", due is " + want);
    }

    static void holds(String what, boolean holds) {
        is(what, holds ? 1 : 0, 1);
    }

    /** A call that is told as text in the tests' output, too. */
    interface Call {
        long answer();
    }

    /** The call is refused as told, and changes nothing that digest() tells. */
    static void refused(FreshHorses x, String call, long due, Call made) {
        long before = x.digest();
        is(call, made.answer(), due);
        is(call + " changes nothing", x.digest(), before);
    }

    static void end() {
        System.out.println(asked + " answers, " + wrong + " not as due");
        if (wrong != 0 || asked == 0) System.exit(1);
    }

    /** The letters of a text, told eight at a time. */
    static void write(FreshHorses x, String text) {
        for (int from = 0; from < text.length(); from += 8) {
            x.letters(word(text.substring(from, Math.min(text.length(), from + 8))));
        }
    }

    static long word(String upToEight) {
        long w = 0;
        for (int i = 0; i < upToEight.length(); i++) w |= (long) upToEight.charAt(i) << 8 * i;
        return w;
    }

    static int road(FreshHorses x, String text) {
        x.blank();
        write(x, text);
        return x.road();
    }

    static int sort(FreshHorses x, String text) {
        x.blank();
        write(x, text);
        return x.sort();
    }

    static int tell(FreshHorses x, String text) {
        x.blank();
        write(x, text);
        return x.tell();
    }

    static int fault(FreshHorses x, int sort, String text) {
        x.blank();
        write(x, text);
        int at = x.fault(sort);
        x.blank();
        return at;
    }

    /** An object with ROAD and SORT; PLACES lie at the MILES 0, 2, 4, 6. */
    static FreshHorses ready() {
        FreshHorses x = new FreshHorses();
        road(x, ROAD);
        sort(x, SORT);
        return x;
    }
}
