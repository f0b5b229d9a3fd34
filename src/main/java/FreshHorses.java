import java.util.Arrays;

/** A road with stables, beasts that tire and rest, and rides of kinds over it. */
public final class FreshHorses {
    public static final int NONE = -1, UNKNOWN = -101, OUTSIDE = -102, STATE = -103, FULL = -104;

    private static final int MOST_CODES = 90, MOST_MILES = 24, MOST_STARS = 7, MOST_PLACES = 8;
    private static final int MOST_SORTS = 4, MOST_BEASTS = 12, MOST_RIDES = 8, MOST_LETTERS = 10;
    private static final int MOST_STRENGTH = 12, MOST_MINUTES = 30, LAST_MINUTE = 9999, REST = 30;
    private static final int MOST_HAY = 999, MOST_PRICE = 99, MOST_EACH = 4;
    private static final int MOST_SEARCHES = 20, MOST_FEWEST = 10;
    private static final int FLAT = 0, HILL = 1, SAND = 2, GROUNDS = 3;
    private static final int WALK = 0, TROT = 1, RUN = 2, PACES = 3, ON_FOOT = 3, FOOT_MINUTES = 25;
    private static final int EVEN = 0, GROUND = 1, PRESS = 2, BEST = 3, SPARING = 4, TOLD = 5;
    private static final int A_ROAD = 0, A_SORT = 1, A_TOLD = 2;
    private static final int SOONER_UNKNOWN = -100001, SOONER_OUTSIDE = -100002, SOONER_STATE = -100003;
    /** The greatest n of each KIND that is not TOLD. */
    private static final int[] MOST_N = {2, 26, 0, 0, 12};
    /** No refusal; all refusals are below 0. */
    private static final int FINE = 0;
    /** More than any ride's minutes and any stables' cost, and small enough to be added up. */
    private static final int FAR = 1000000;

    private final int[] page = new int[MOST_CODES];
    private final Sort[] sorts = new Sort[MOST_SORTS];
    private final Even[] rides = new Even[MOST_RIDES];
    private final Stock stock = new Stock();
    private final Stock kept = new Stock();
    /** What a DAY, a SET or FEWEST is tried on, so that nothing stays of it. */
    private final Stock trial = new Stock();
    private final Trip trip = new Trip();
    private final Search search = new Search();
    private Road road = null;
    private int codes = 0;
    private int sortCount = 0;
    private int rideCount = 0;
    private int roadsRead = 0;
    /** How many ROADS had been read when the IMAGE was kept; NONE without an IMAGE. */
    private int keptRoads = NONE;
    private int searchesDone = 0;
    private int fewestDone = 0;

    public FreshHorses() {
    }

    // ---- texts

    public int letters(long w) {
        int come = codesIn(w);
        if (come == OUTSIDE) return OUTSIDE;
        if (codes + come > MOST_CODES) return FULL;
        for (int i = 0; i < come; i++) page[codes + i] = byteOf(w, i);
        codes += come;
        return codes;
    }

    public int blank() {
        int had = codes;
        codes = 0;
        return had;
    }

    public int fault(int sort) {
        if (sort == A_ROAD) return new Road().firstFault(page, codes);
        if (sort == A_SORT) return new Sort(NONE).firstFault(page, codes);
        if (sort == A_TOLD) return new Told(codes).firstFault(page, codes);
        return OUTSIDE;
    }

    public int road() {
        Road next = new Road();
        if (next.firstFault(page, codes) < codes || !next.isWhole()) return STATE;
        next.close();
        road = next;
        roadsRead++;
        stock.empty();
        codes = 0;
        return road.places;
    }

    public int sort() {
        Sort next = new Sort(sortCount);
        if (next.firstFault(page, codes) < codes || !next.isWhole()) return STATE;
        if (sortCount >= MOST_SORTS) return FULL;
        next.reckon();
        sorts[sortCount] = next;
        codes = 0;
        return sortCount++;
    }

    public int ride(int kind, int n) {
        if (kind < EVEN || kind >= TOLD) return OUTSIDE;
        if (n < 0 || n > MOST_N[kind]) return OUTSIDE;
        if (rideCount >= MOST_RIDES) return FULL;
        return addRide(rideOf(kind, n));
    }

    public int tell() {
        Told next = new Told(codes);
        if (next.firstFault(page, codes) < codes || !next.isWhole()) return STATE;
        if (rideCount >= MOST_RIDES) return FULL;
        codes = 0;
        return addRide(next);
    }

    public int as(int ride, int kind) {
        if (!isRide(ride)) return UNKNOWN;
        if (kind < EVEN || kind > TOLD) return OUTSIDE;
        return isOfKind(rides[ride], kind) ? ride : NONE;
    }

    public int roadTold(int what) {
        if (road == null) return STATE;
        if (what == 0) return road.miles;
        if (what == 1) return road.places;
        if (what >= 10 && what < 10 + MOST_PLACES) return what - 10 < road.places ? road.mileOf[what - 10] : NONE;
        if (what >= 30 && what < 30 + MOST_MILES) return what - 30 < road.miles ? road.grounds[what - 30] : NONE;
        return OUTSIDE;
    }

    public int sortTold(int sort, int what) {
        if (!isSort(sort)) return UNKNOWN;
        if (what < 0 || what >= Sort.NUMBERS) return OUTSIDE;
        return sorts[sort].numbers[what];
    }

    public int takes(int sort, int ground, int pace, int what) {
        if (!isSort(sort)) return UNKNOWN;
        if (ground < FLAT || ground > SAND || !isPace(pace) || !isUpTo(what, 1)) return OUTSIDE;
        return what == 0 ? sorts[sort].minutesOn(ground, pace) : sorts[sort].lossOn(ground, pace);
    }

    // ---- beasts

    public int beast(int sort, int place, int strength, int since) {
        if (!isSort(sort)) return UNKNOWN;
        if (road == null) return STATE;
        if (!isOnTheWay(place) || !isUpTo(strength, sorts[sort].fresh()) || !isMinute(since)) return OUTSIDE;
        if (stock.beasts >= MOST_BEASTS) return FULL;
        return stock.addBeast(sorts[sort], place, strength, since);
    }

    public int about(int beast, int what) {
        if (!isBeast(beast)) return UNKNOWN;
        return stock.tellOf(beast, what);
    }

    public int strength(int beast, int minute) {
        if (!isBeast(beast)) return UNKNOWN;
        if (!isMinute(minute)) return OUTSIDE;
        return stock.strengthAt(beast, minute);
    }

    public int lead(int beast, int place) {
        if (!isBeast(beast)) return UNKNOWN;
        if (road == null || place < 0 || place >= road.places) return OUTSIDE;
        int was = stock.placeOf[beast];
        stock.placeOf[beast] = place;
        return was;
    }

    // ---- rides

    public int tried(int ride, int minute) {
        int refusal = refusalOf(ride, minute);
        if (refusal != FINE) return refusal;
        return minutesOver(stock, ride, minute);
    }

    public int left(int ride, int minute, int beast, int what) {
        if (!isRide(ride)) return UNKNOWN;
        if (road == null) return STATE;
        if (!isBeast(beast)) return UNKNOWN;
        if (!isMinute(minute) || !isUpTo(what, 2)) return OUTSIDE;
        if (minutesOver(stock, ride, minute) == STATE) return STATE;
        if (what == 0) return trip.placeOf[beast];
        if (what == 1) return trip.strengthOf[beast];
        return trip.wasRidden[beast] ? 1 : 0;
    }

    public int way(int ride, int minute, int mile, int what) {
        int refusal = refusalOf(ride, minute);
        if (refusal != FINE) return refusal;
        if (mile < 0 || mile >= road.miles || !isUpTo(what, 1)) return OUTSIDE;
        if (minutesOver(stock, ride, minute) == STATE) return STATE;
        return what == 0 ? trip.paceOn[mile] : trip.beastOn[mile];
    }

    public int ridden(int ride, int minute) {
        int refusal = refusalOf(ride, minute);
        if (refusal != FINE) return refusal;
        int minutes = minutesOver(stock, ride, minute);
        if (minutes != STATE) stock.standAsLeft(trip);
        return minutes;
    }

    public int wrong(int ride, int minute) {
        if (!isRide(ride)) return UNKNOWN;
        if (road == null || !isOfKind(rides[ride], TOLD)) return STATE;
        if (!isMinute(minute)) return OUTSIDE;
        minutesOver(stock, ride, minute);
        return trip.wrongStep;
    }

    public int sooner(int ride, int other, int minute) {
        if (!isRide(ride) || !isRide(other)) return SOONER_UNKNOWN;
        if (road == null) return SOONER_STATE;
        if (!isMinute(minute)) return SOONER_OUTSIDE;
        int one = minutesOver(stock, ride, minute);
        int two = minutesOver(stock, other, minute);
        return one == STATE || two == STATE ? SOONER_STATE : one - two;
    }

    // ---- stables

    public int set(int sort, int k, int what) {
        if (!isSort(sort)) return UNKNOWN;
        if (road == null) return STATE;
        if (!isUpTo(k, road.places - 2) || !isUpTo(what, 1)) return OUTSIDE;
        if (searchesDone >= MOST_SEARCHES) return STATE;
        searchesDone++;
        standFresh(sorts[sort], 1);
        prepareSearch(trial, 0);
        return soonestSet(k, what);
    }

    public int gap(int sort, int place, int pace) {
        if (!isSort(sort)) return UNKNOWN;
        if (road == null) return STATE;
        if (place < 0 || place >= road.places || !isPace(pace)) return OUTSIDE;
        int strength = sorts[sort].fresh();
        int from = road.mileOf[place];
        for (int mile = from; mile < road.miles; mile++) {
            strength -= sorts[sort].lossOn(road.grounds[mile], pace);
            if (strength < 0) return mile - from;
        }
        return road.miles - from;
    }

    public int missed(int minute, int what) {
        if (road == null) return STATE;
        if (!isMinute(minute) || !isUpTo(what, 1)) return OUTSIDE;
        prepareSearch(stock, minute);
        int with = search.soonest(0);
        int place = 0;
        int most = NONE;
        for (int p = 0; p < road.places - 1; p++) {
            int more = search.soonest(1 << p) - with;
            if (more > most) {
                most = more;
                place = p;
            }
        }
        return what == 0 ? place : most;
    }

    public int hay(int place, int v) {
        if (road == null) return STATE;
        if (!isOnTheWay(place) || !isUpTo(v, MOST_HAY)) return OUTSIDE;
        int was = stock.hayOf[place];
        stock.hayOf[place] = v;
        return was;
    }

    public int shut(int minute, int price, int what) {
        if (road == null) return STATE;
        if (!isMinute(minute) || !isUpTo(price, MOST_PRICE) || !isUpTo(what, 1)) return OUTSIDE;
        if (searchesDone >= MOST_SEARCHES) return STATE;
        searchesDone++;
        prepareSearch(stock, minute);
        return cheapestShut(price, what);
    }

    // ---- letters

    public int letter(int minute) {
        if (!isMinute(minute) || minute < stock.lastLetter()) return OUTSIDE;
        if (stock.letters >= MOST_LETTERS) return FULL;
        return stock.addLetter(minute);
    }

    public int day(int ride, int what) {
        if (!isRide(ride)) return UNKNOWN;
        if (road == null) return STATE;
        if (!isUpTo(what, 2)) return OUTSIDE;
        trial.become(stock);
        return dayOver(ride, what);
    }

    public int fewest(int sort, int ride, int limit) {
        if (!isSort(sort) || !isRide(ride)) return UNKNOWN;
        if (road == null || isOfKind(rides[ride], TOLD)) return STATE;
        if (!isMinute(limit)) return OUTSIDE;
        if (fewestDone >= MOST_FEWEST) return STATE;
        fewestDone++;
        for (int each = 1; each <= MOST_EACH && each * (road.places - 1) <= MOST_BEASTS; each++) {
            standFresh(sorts[sort], each);
            if (dayOver(ride, 1) <= limit) return each;
        }
        return NONE;
    }

    // ---- what is told

    public int image() {
        kept.become(stock);
        keptRoads = roadsRead;
        return kept.beasts;
    }

    public int restore() {
        if (keptRoads != roadsRead) return STATE;
        stock.become(kept);
        return stock.beasts;
    }

    public int count(int what) {
        switch (what) {
            case 0: return sortCount;
            case 1: return stock.beasts;
            case 2: return rideCount;
            case 3: return stock.letters;
            case 4: return codes;
            case 5: return stock.lostBeasts();
            case 6: return roadsRead;
            case 7: return searchesDone;
            case 8: return fewestDone;
            default: return OUTSIDE;
        }
    }

    public long digest() {
        long h = 389;
        if (road != null) h = road.mixInto(h);
        for (int p = 0; road != null && p < road.places - 1; p++) h = mix(h, stock.hayOf[p]);
        for (int s = 0; s < sortCount; s++) h = mixAll(h, sorts[s].numbers, Sort.NUMBERS);
        for (int b = 0; b < stock.beasts; b++) {
            for (int what = 0; what < Stock.TOLD_OF_BEAST; what++) h = mix(h, stock.tellOf(b, what));
        }
        for (int r = 0; r < rideCount; r++) {
            h = mix(mix(h, rides[r].kind), rides[r].n);
            if (road != null) h = mix(h, minutesOver(stock, r, 100));
        }
        h = mixAll(h, stock.letterMinute, stock.letters);
        h = mixAll(h, page, codes);
        for (int what = 0; what <= 8; what++) h = mix(h, count(what));
        return h;
    }

    // ---- what the calls are made of

    private static boolean isUpTo(int value, int most) {
        return value >= 0 && value <= most;
    }

    private static boolean isMinute(int minute) {
        return isUpTo(minute, LAST_MINUTE);
    }

    private static boolean isPace(int pace) {
        return isUpTo(pace, RUN);
    }

    private boolean isSort(int sort) {
        return sort >= 0 && sort < sortCount;
    }

    private boolean isRide(int ride) {
        return ride >= 0 && ride < rideCount;
    }

    private boolean isBeast(int beast) {
        return beast >= 0 && beast < stock.beasts;
    }

    /** Whether it is a PLACE of THE ROAD, and not THE END. */
    private boolean isOnTheWay(int place) {
        return place >= 0 && place < road.places - 1;
    }

    private static int byteOf(long w, int i) {
        return (int) (w >>> 8 * i & 255);
    }

    /** How many letters w tells; OUTSIDE. */
    private static int codesIn(long w) {
        int come = 0;
        for (int i = 0; i < 8; i++) {
            int code = byteOf(w, i);
            if (code > 126 || code != 0 && come < i) return OUTSIDE;
            if (code != 0) come++;
        }
        return come;
    }

    private static int digitOf(int code) {
        return code >= '0' && code <= '9' ? code - '0' : NONE;
    }

    private Even rideOf(int kind, int n) {
        switch (kind) {
            case GROUND: return new Ground(n);
            case PRESS: return new Press();
            case BEST: return new Best(BEST, 0, search);
            case SPARING: return new Sparing(n, search);
            default: return new Even(EVEN, n);
        }
    }

    private int addRide(Even next) {
        rides[rideCount] = next;
        return rideCount++;
    }

    private static boolean isOfKind(Even ride, int kind) {
        switch (kind) {
            case GROUND: return ride instanceof Ground;
            case PRESS: return ride instanceof Press;
            case BEST: return ride instanceof Best;
            case SPARING: return ride instanceof Sparing;
            case TOLD: return ride instanceof Told;
            default: return true;
        }
    }

    private int refusalOf(int ride, int minute) {
        if (!isRide(ride)) return UNKNOWN;
        if (road == null) return STATE;
        return isMinute(minute) ? FINE : OUTSIDE;
    }

    /** The RIDE is gone on the trip, which then tells how; its MINUTES, or STATE if a TOLD fails. */
    private int minutesOver(Stock beasts, int ride, int minute) {
        trip.begin(road, beasts, minute);
        rides[ride].goOver(trip);
        return trip.wrongStep == NONE ? trip.gone : STATE;
    }

    /** The DAY is ridden with the BEASTS of the trial, by the LETTERS that have come. */
    private int dayOver(int ride, int what) {
        int together = 0;
        int slowest = 0;
        for (int i = 0; i < stock.letters; i++) {
            int minutes = minutesOver(trial, ride, stock.letterMinute[i]);
            if (minutes == STATE) return STATE;
            trial.standAsLeft(trip);
            together += minutes;
            slowest = Math.max(slowest, minutes);
        }
        if (what == 0) return together;
        return what == 1 ? slowest : trial.lostBeasts();
    }

    /** The trial has so many fresh BEASTS at each PLACE but THE END, and no others. */
    private void standFresh(Sort sort, int each) {
        trial.empty();
        for (int p = 0; p < road.places - 1; p++) {
            for (int i = 0; i < each; i++) trial.addBeast(sort, p, sort.fresh(), 0);
        }
    }

    private void prepareSearch(Stock beasts, int minute) {
        trip.begin(road, beasts, minute);
        search.measure(trip, 0);
    }

    private int soonestSet(int k, int what) {
        int all = (1 << road.places - 1) - 1;
        int bits = 0;
        int least = FAR;
        for (int b = 0; b <= all; b += 2) {
            if (Integer.bitCount(b) != k) continue;
            int minutes = search.soonest(all - b - 1);
            if (minutes < least) {
                least = minutes;
                bits = b;
            }
        }
        return what == 0 ? bits : least;
    }

    private int cheapestShut(int price, int what) {
        int all = (1 << road.places - 1) - 1;
        int bits = 0;
        int least = FAR;
        for (int b = 0; b <= all; b++) {
            int cost = stock.hayWithout(b, road.places - 1) + price * search.soonest(b);
            if (cost < least) {
                least = cost;
                bits = b;
            }
        }
        return what == 0 ? bits : least;
    }

    private static long mix(long h, long number) {
        return 31 * h + number;
    }

    private static long mixAll(long h, int[] numbers, int many) {
        long mixed = h;
        for (int i = 0; i < many && i < numbers.length; i++) mixed = mix(mixed, numbers[i]);
        return mixed;
    }

    /** THE ROAD, read letter by letter. */
    private static final class Road {
        private static final int WANTS_GROUND = 0, WANTS_DIGIT = 1, MAY_HAVE_STAR = 2;

        final int[] grounds = new int[MOST_MILES];
        final int[] mileOf = new int[MOST_PLACES];
        /** The PLACE at which a MILE begins (THE END behind the last one), or NONE. */
        final int[] placeAt = new int[MOST_MILES + 1];
        int miles = 0;
        int places = 0;
        private int ground = FLAT;
        private int awaited = WANTS_GROUND;

        Road() {
            Arrays.fill(placeAt, NONE);
            addPlace();
        }

        int firstFault(int[] text, int length) {
            for (int i = 0; i < length; i++) {
                if (!accepts(text[i])) return i;
            }
            return length;
        }

        boolean isWhole() {
            return miles > 0 && awaited != WANTS_DIGIT;
        }

        /** THE END is a PLACE, even if it was not told as one. */
        void close() {
            if (placeAt[miles] == NONE) addPlace();
        }

        private boolean accepts(int code) {
            if (awaited == WANTS_DIGIT) return addMiles(digitOf(code));
            if (code == '*' && awaited == MAY_HAVE_STAR) {
                addPlace();
                awaited = WANTS_GROUND;
                return true;
            }
            ground = groundOf(code);
            awaited = WANTS_DIGIT;
            return ground != NONE && miles < MOST_MILES && places - 1 < MOST_STARS;
        }

        private boolean addMiles(int digit) {
            if (digit < 1 || miles + digit > MOST_MILES) return false;
            for (int i = 0; i < digit; i++) grounds[miles + i] = ground;
            miles += digit;
            awaited = MAY_HAVE_STAR;
            return true;
        }

        private void addPlace() {
            placeAt[miles] = places;
            mileOf[places] = miles;
            places++;
        }

        private static int groundOf(int code) {
            if (code == 'f') return FLAT;
            if (code == 'h') return HILL;
            return code == 's' ? SAND : NONE;
        }

        long mixInto(long h) {
            long mixed = mix(mix(h, miles), places);
            mixed = mixAll(mixed, mileOf, places);
            return mixAll(mixed, grounds, miles);
        }
    }

    /** A SORT of beasts, read letter by letter. */
    private static final class Sort {
        static final int NUMBERS = 7;
        private static final int FIRST_MINUTES = 1, FIRST_LOSS = 4;
        private static final String BETWEEN = ":,,;,,";

        final int number;
        /** STRENGTH, three MINUTES, three LOSSES. */
        final int[] numbers = new int[NUMBERS];
        private final int[] minutes = new int[GROUNDS * PACES];
        private final int[] losses = new int[GROUNDS * PACES];
        private int at = 0;
        private boolean begun = false;

        Sort(int number) {
            this.number = number;
        }

        int firstFault(int[] text, int length) {
            for (int i = 0; i < length; i++) {
                if (!accepts(text[i])) return i;
            }
            return length;
        }

        boolean isWhole() {
            return at == NUMBERS - 1 && begun;
        }

        private boolean accepts(int code) {
            int digit = digitOf(code);
            if (digit == NONE) return endsNumber(code);
            if (begun) return lengthensNumber(digit);
            begun = true;
            numbers[at] = digit;
            return digit > 0 || at >= FIRST_LOSS;
        }

        private boolean endsNumber(int code) {
            if (!begun || at >= BETWEEN.length() || code != BETWEEN.charAt(at)) return false;
            at++;
            begun = false;
            return true;
        }

        private boolean lengthensNumber(int digit) {
            if (at >= FIRST_LOSS) return false;
            numbers[at] = 10 * numbers[at] + digit;
            return numbers[at] <= (at < FIRST_MINUTES ? MOST_STRENGTH : MOST_MINUTES);
        }

        /** What a MILE takes is worked out once, for each GROUND and PACE. */
        void reckon() {
            for (int pace = WALK; pace < PACES; pace++) {
                int quick = numbers[FIRST_MINUTES + pace];
                int light = numbers[FIRST_LOSS + pace];
                put(FLAT, pace, quick, light);
                put(HILL, pace, quick + 2, pace >= TROT ? light + 1 : light);
                put(SAND, pace, quick + 1, light + 1);
            }
        }

        private void put(int ground, int pace, int minutesThere, int lossThere) {
            minutes[PACES * ground + pace] = minutesThere;
            losses[PACES * ground + pace] = lossThere;
        }

        int minutesOn(int ground, int pace) {
            return minutes[PACES * ground + pace];
        }

        int lossOn(int ground, int pace) {
            return losses[PACES * ground + pace];
        }

        int fresh() {
            return numbers[0];
        }
    }

    /** What an IMAGE keeps: BEASTS, HAY, LETTERS. */
    private static final class Stock {
        static final int TOLD_OF_BEAST = 4;

        int beasts = 0;
        final Sort[] sortOf = new Sort[MOST_BEASTS];
        final int[] placeOf = new int[MOST_BEASTS];
        private final int[] strengthOf = new int[MOST_BEASTS];
        private final int[] sinceOf = new int[MOST_BEASTS];
        final int[] hayOf = new int[MOST_PLACES];
        int letters = 0;
        final int[] letterMinute = new int[MOST_LETTERS];

        void empty() {
            beasts = 0;
            letters = 0;
            Arrays.fill(hayOf, 0);
        }

        void become(Stock other) {
            beasts = other.beasts;
            for (int b = 0; b < beasts; b++) {
                sortOf[b] = other.sortOf[b];
                placeOf[b] = other.placeOf[b];
                strengthOf[b] = other.strengthOf[b];
                sinceOf[b] = other.sinceOf[b];
            }
            System.arraycopy(other.hayOf, 0, hayOf, 0, MOST_PLACES);
            letters = other.letters;
            System.arraycopy(other.letterMinute, 0, letterMinute, 0, MOST_LETTERS);
        }

        int addBeast(Sort sort, int place, int strength, int since) {
            if (beasts >= MOST_BEASTS) return FULL;
            sortOf[beasts] = sort;
            placeOf[beasts] = place;
            strengthOf[beasts] = strength;
            sinceOf[beasts] = since;
            return beasts++;
        }

        int tellOf(int beast, int what) {
            switch (what) {
                case 0: return sortOf[beast].number;
                case 1: return placeOf[beast];
                case 2: return strengthOf[beast];
                case 3: return sinceOf[beast];
                default: return OUTSIDE;
            }
        }

        int strengthAt(int beast, int minute) {
            int rested = minute > sinceOf[beast] ? (minute - sinceOf[beast]) / REST : 0;
            return Math.min(strengthOf[beast] + rested, sortOf[beast].fresh());
        }

        int lostBeasts() {
            int lost = 0;
            for (int b = 0; b < beasts; b++) {
                if (placeOf[b] == NONE) lost++;
            }
            return lost;
        }

        void standAsLeft(Trip trip) {
            for (int b = 0; b < beasts; b++) {
                if (!trip.wasRidden[b]) continue;
                placeOf[b] = trip.placeOf[b];
                strengthOf[b] = trip.strengthOf[b];
                sinceOf[b] = trip.leftAt[b];
            }
        }

        int hayWithout(int shutBits, int places) {
            int paid = 0;
            for (int p = 0; p < places; p++) {
                if ((shutBits >> p & 1) == 0) paid += hayOf[p];
            }
            return paid;
        }

        int lastLetter() {
            return letters == 0 ? 0 : letterMinute[letters - 1];
        }

        int addLetter(int minute) {
            letterMinute[letters] = minute;
            letters++;
            return letters;
        }
    }

    /** A RIDE under way: where it is, what it rides, and how all BEASTS stand. */
    private static final class Trip {
        Road road = null;
        private int start = 0;
        int gone = 0;
        int mile = 0;
        /** The BEAST that it rides, or NONE. */
        int mount = NONE;
        int beasts = 0;
        final Sort[] sortOf = new Sort[MOST_BEASTS];
        /** NONE, too, of the one that it rides: that does not stand. */
        final int[] placeOf = new int[MOST_BEASTS];
        final int[] strengthOf = new int[MOST_BEASTS];
        final int[] leftAt = new int[MOST_BEASTS];
        final boolean[] wasRidden = new boolean[MOST_BEASTS];
        final int[] paceOn = new int[MOST_MILES];
        final int[] beastOn = new int[MOST_MILES];
        int wrongStep = NONE;

        void begin(Road way, Stock stock, int minute) {
            road = way;
            start = minute;
            gone = 0;
            mile = 0;
            mount = NONE;
            wrongStep = NONE;
            beasts = stock.beasts;
            for (int b = 0; b < beasts; b++) {
                sortOf[b] = stock.sortOf[b];
                placeOf[b] = stock.placeOf[b];
                strengthOf[b] = stock.strengthAt(b, minute);
                wasRidden[b] = false;
            }
        }

        /** The PLACE where it is, or NONE. */
        int here() {
            return road.placeAt[mile];
        }

        boolean isThere(int beast) {
            return beast < beasts && here() != NONE && placeOf[beast] == here();
        }

        void takeBeast(int beast) {
            leaveMount();
            mount = beast;
            placeOf[beast] = NONE;
        }

        void leaveMount() {
            if (mount == NONE) return;
            placeOf[mount] = here();
            leftAt[mount] = start + gone;
            mount = NONE;
        }

        void takeStrongest() {
            int strongest = mount;
            int most = mount == NONE ? 0 : strengthOf[mount];
            for (int b = 0; b < beasts; b++) {
                if (isThere(b) && strengthOf[b] > most) {
                    most = strengthOf[b];
                    strongest = b;
                }
            }
            if (strongest != mount) takeBeast(strongest);
        }

        int lossAt(int pace) {
            return sortOf[mount].lossOn(road.grounds[mile], pace);
        }

        boolean canDo(int pace) {
            return strengthOf[mount] >= lossAt(pace);
        }

        /** The PACE, or the next slower one that the BEAST can do; ON_FOOT, if there is none. */
        int slowedFrom(int pace) {
            for (int p = pace; p >= WALK; p--) {
                if (canDo(p)) return p;
            }
            return ON_FOOT;
        }

        /** What a WALK loses from behind this MILE to the next PLACE. */
        int walkAhead() {
            int loss = 0;
            for (int m = mile + 1; m < road.miles && road.placeAt[m] == NONE; m++) {
                loss += sortOf[mount].lossOn(road.grounds[m], WALK);
            }
            return loss;
        }

        /** The next MILE is gone; ON FOOT what it rode is left behind. */
        void goMile(int pace) {
            if (pace == ON_FOOT) leaveMount();
            paceOn[mile] = pace;
            beastOn[mile] = mount;
            if (mount == NONE) {
                gone += FOOT_MINUTES;
            } else {
                gone += sortOf[mount].minutesOn(road.grounds[mile], pace);
                strengthOf[mount] -= lossAt(pace);
                wasRidden[mount] = true;
            }
            mile++;
        }
    }

    /** A RIDE at one PACE; all other KINDS are EVEN, too. */
    private static class Even {
        final int kind;
        final int n;

        Even(int kind, int n) {
            this.kind = kind;
            this.n = n;
        }

        void goOver(Trip trip) {
            int miles = trip.road.miles;
            for (int i = 0; i < miles; i++) {
                if (trip.here() != NONE) trip.takeStrongest();
                trip.goMile(trip.mount == NONE ? ON_FOOT : paceOf(trip));
            }
            trip.leaveMount();
        }

        /** The PACE of the next MILE with a BEAST; ON_FOOT, if it can do none. */
        int paceOf(Trip trip) {
            return trip.slowedFrom(n);
        }
    }

    /** A RIDE whose PACE goes by the GROUND. */
    private static final class Ground extends Even {
        private final int[] paces = new int[GROUNDS];

        Ground(int n) {
            super(GROUND, n);
            paces[FLAT] = n % PACES;
            paces[HILL] = n / PACES % PACES;
            paces[SAND] = n / (PACES * PACES);
        }

        int paceOf(Trip trip) {
            return trip.slowedFrom(paces[trip.road.grounds[trip.mile]]);
        }
    }

    /** A RIDE as fast as the BEAST can still WALK to the next PLACE. */
    private static final class Press extends Even {
        Press() {
            super(PRESS, 0);
        }

        int paceOf(Trip trip) {
            int spared = trip.strengthOf[trip.mount] - trip.walkAhead();
            for (int pace = RUN; pace >= WALK; pace--) {
                if (trip.lossAt(pace) <= spared) return pace;
            }
            return trip.slowedFrom(WALK);
        }
    }

    /** The soonest RIDE. */
    private static class Best extends Even {
        private final Search search;

        Best(int kind, int n, Search search) {
            super(kind, n);
            this.search = search;
        }

        final void goOver(Trip trip) {
            search.measure(trip, n);
            int all = search.soonest(0);
            int miles = trip.road.miles;
            for (int i = 0; i < miles; i++) {
                int pace = search.paceToward(all - trip.gone);
                if (pace == NONE && trip.here() != NONE) {
                    search.change(all - trip.gone);
                    pace = search.paceToward(all - trip.gone);
                }
                trip.goMile(pace == NONE ? ON_FOOT : pace);
            }
            trip.leaveMount();
        }
    }

    /** The soonest RIDE that leaves each BEAST n. */
    private static final class Sparing extends Best {
        Sparing(int n, Search search) {
            super(SPARING, n, search);
        }
    }

    /** A RIDE told STEP by STEP, read letter by letter. */
    private static final class Told extends Even {
        private static final int STEP_BEGINS = 0, WANTS_NUMBER = 1, IN_NUMBER = 2, WANTS_GAIT = 3;
        private static final int GOES_ON = -2, LEAVES = -1;

        /** The BEAST that a STEP TAKES, or LEAVES, or GOES_ON. */
        private final int[] changes;
        private final int[] gaits;
        private int steps = 0;
        private int change = GOES_ON;
        private int awaited = STEP_BEGINS;

        Told(int mostSteps) {
            super(TOLD, 0);
            changes = new int[Math.max(0, mostSteps)];
            gaits = new int[Math.max(0, mostSteps)];
        }

        int firstFault(int[] text, int length) {
            for (int i = 0; i < length; i++) {
                if (!accepts(text[i])) return i;
            }
            return length;
        }

        boolean isWhole() {
            return steps > 0 && awaited == STEP_BEGINS;
        }

        private boolean accepts(int code) {
            int gait = gaitOf(code);
            if (gait != NONE) return endsStep(gait);
            if (digitOf(code) != NONE) return addDigit(digitOf(code));
            if (awaited != STEP_BEGINS) return false;
            change = code == 'd' ? LEAVES : GOES_ON;
            awaited = code == 'd' ? WANTS_GAIT : WANTS_NUMBER;
            return code == 'c' || code == 'd';
        }

        private boolean endsStep(int gait) {
            if (awaited == WANTS_NUMBER || steps >= gaits.length) return false;
            changes[steps] = change;
            gaits[steps] = gait;
            steps++;
            change = GOES_ON;
            awaited = STEP_BEGINS;
            return true;
        }

        private boolean addDigit(int digit) {
            if (awaited == WANTS_NUMBER) {
                change = digit;
                awaited = IN_NUMBER;
                return true;
            }
            if (awaited != IN_NUMBER || change == 0) return false;
            change = 10 * change + digit;
            return change < MOST_BEASTS;
        }

        private static int gaitOf(int code) {
            switch (code) {
                case 'w': return WALK;
                case 't': return TROT;
                case 'r': return RUN;
                case 'o': return ON_FOOT;
                default: return NONE;
            }
        }

        void goOver(Trip trip) {
            int miles = trip.road.miles;
            for (int i = 0; i < miles; i++) {
                if (i >= steps || !changesAt(trip, changes[i]) || !goesAt(trip, gaits[i])) {
                    trip.wrongStep = i;
                    return;
                }
            }
            if (steps > miles) trip.wrongStep = miles;
            trip.leaveMount();
        }

        private static boolean changesAt(Trip trip, int what) {
            if (what == GOES_ON) return true;
            if (what == LEAVES) {
                if (trip.here() == NONE || trip.mount == NONE) return false;
                trip.leaveMount();
                return true;
            }
            if (!trip.isThere(what)) return false;
            trip.takeBeast(what);
            return true;
        }

        private static boolean goesAt(Trip trip, int gait) {
            boolean onFoot = trip.mount == NONE;
            if (onFoot != (gait == ON_FOOT)) return false;
            if (!onFoot && !trip.canDo(gait)) return false;
            trip.goMile(gait);
            return true;
        }
    }

    /** Finds the soonest way of all: BEASTS are only left behind, so each PLACE looks ahead alone. */
    private static final class Search {
        /** The least MINUTES that a BEAST takes from where it stands to a PLACE; FAR, if it cannot come there. */
        private final int[][] legs = new int[MOST_BEASTS][MOST_PLACES];
        /** The least MINUTES to THE END from a PLACE where what was ridden is left. */
        private final int[] toEnd = new int[MOST_PLACES];
        /** The least MINUTES to THE END from a MILE with a strength of the BEAST that is ridden. */
        private final int[][] onward = new int[MOST_MILES + 1][MOST_STRENGTH + 1];
        private final int[] now = new int[MOST_STRENGTH + 1];
        private final int[] then = new int[MOST_STRENGTH + 1];
        private Trip trip = null;
        private Road road = null;
        private int spare = 0;

        void measure(Trip over, int left) {
            trip = over;
            road = over.road;
            spare = left;
            for (int b = 0; b < trip.beasts; b++) {
                int twin = twinOf(b);
                if (twin == NONE) measureLegs(b);
                else System.arraycopy(legs[twin], 0, legs[b], 0, MOST_PLACES);
            }
        }

        /** A lesser BEAST that is the same in all that its legs depend on, or NONE. */
        private int twinOf(int beast) {
            for (int b = 0; b < beast; b++) {
                if (trip.placeOf[b] == trip.placeOf[beast] && trip.strengthOf[b] == trip.strengthOf[beast]
                        && trip.sortOf[b].number == trip.sortOf[beast].number) return b;
            }
            return NONE;
        }

        private void measureLegs(int beast) {
            int[] row = legs[beast];
            Arrays.fill(row, FAR);
            int place = trip.placeOf[beast];
            if (place == NONE) return;
            Arrays.fill(now, FAR);
            now[trip.strengthOf[beast]] = 0;
            for (int mile = road.mileOf[place]; mile < road.miles; mile++) {
                int least = spreadOver(trip.sortOf[beast], road.grounds[mile], trip.strengthOf[beast]);
                if (least >= FAR) return;
                if (road.placeAt[mile + 1] != NONE) row[road.placeAt[mile + 1]] = least;
            }
        }

        /** From the least MINUTES by strength ahead of a MILE to those behind it; the least of them. */
        private int spreadOver(Sort sort, int ground, int most) {
            Arrays.fill(then, FAR);
            int least = FAR;
            int soonestYet = FAR;
            for (int s = most; s >= spare; s--) {
                // who is weaker and no sooner can do nothing that the stronger one cannot
                if (now[s] >= soonestYet) continue;
                soonestYet = now[s];
                for (int pace = WALK; pace < PACES; pace++) {
                    int rest = s - sort.lossOn(ground, pace);
                    if (rest < spare) continue;
                    int minutes = soonestYet + sort.minutesOn(ground, pace);
                    if (minutes < then[rest]) then[rest] = minutes;
                    if (minutes < least) least = minutes;
                }
            }
            System.arraycopy(then, 0, now, 0, MOST_STRENGTH + 1);
            return least;
        }

        /** MINUTES of a BEST, if BEASTS at the closed PLACES (as bits) are not there. */
        int soonest(int closed) {
            int end = road.places - 1;
            toEnd[end] = 0;
            for (int p = end - 1; p >= 0; p--) {
                toEnd[p] = byFoot(p);
                if ((closed >> p & 1) != 0) continue;
                for (int b = 0; b < trip.beasts; b++) {
                    if (trip.placeOf[b] == p) toEnd[p] = Math.min(toEnd[p], byBeast(b, p));
                }
            }
            return toEnd[0];
        }

        private int byFoot(int place) {
            return FOOT_MINUTES * (road.mileOf[place + 1] - road.mileOf[place]) + toEnd[place + 1];
        }

        private int byBeast(int beast, int place) {
            int least = FAR;
            for (int q = place + 1; q < road.places; q++) least = Math.min(least, legs[beast][q] + toEnd[q]);
            return least;
        }

        /** The least PACE by which what is ridden comes to THE END in so many MINUTES; NONE. */
        int paceToward(int minutes) {
            if (trip.mount == NONE) return NONE;
            Sort sort = trip.sortOf[trip.mount];
            int ground = road.grounds[trip.mile];
            for (int pace = WALK; pace < PACES; pace++) {
                int rest = trip.strengthOf[trip.mount] - sort.lossOn(ground, pace);
                if (rest < spare) continue;
                if (sort.minutesOn(ground, pace) + onward[trip.mile + 1][rest] == minutes) return pace;
            }
            return NONE;
        }

        /** At a PLACE where it can't go on as it is: TAKES the least BEAST by which it comes to THE END in so many
         * MINUTES, unless it does so ON FOOT. */
        void change(int minutes) {
            int place = trip.here();
            if (byFoot(place) == minutes) return;
            for (int b = 0; b < trip.beasts; b++) {
                if (trip.placeOf[b] == place && byBeast(b, place) == minutes) {
                    trip.takeBeast(b);
                    lookOnward(trip.sortOf[b], trip.strengthOf[b]);
                    return;
                }
            }
        }

        private void lookOnward(Sort sort, int most) {
            Arrays.fill(onward[road.miles], 0);
            for (int mile = road.miles - 1; mile > trip.mile; mile--) {
                int[] row = onward[mile];
                int[] behind = onward[mile + 1];
                int place = road.placeAt[mile];
                Arrays.fill(row, place == NONE ? FAR : toEnd[place]);
                for (int pace = WALK; pace < PACES; pace++) {
                    int loss = sort.lossOn(road.grounds[mile], pace);
                    int minutes = sort.minutesOn(road.grounds[mile], pace);
                    for (int s = loss + spare; s <= most; s++) {
                        if (minutes + behind[s - loss] < row[s]) row[s] = minutes + behind[s - loss];
                    }
                }
            }
        }
    }
}
