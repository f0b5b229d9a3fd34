import java.util.ArrayList;
import java.util.List;
import java.util.regex.Matcher;
import java.util.regex.Pattern;

/** The whole document once more, told from its words alone: it answers each call as FreshHorses should. */
final class Model {
    static final int NONE = -1, UNKNOWN = -101, OUTSIDE = -102, STATE = -103, FULL = -104;
    private static final String M = "([1-9]|[12][0-9]|30)";
    private static final Pattern ROAD = Pattern.compile("([fhs][1-9]\\*?)+");
    private static final Pattern SORT =
        Pattern.compile("(1[0-2]|[1-9]):" + M + "," + M + "," + M + ";([0-9]),([0-9]),([0-9])");
    private static final Pattern STEP = Pattern.compile("(c(?:1[01]|[0-9])|d)?([wtro])");
    private static final Pattern TOLD = Pattern.compile("((c(1[01]|[0-9])|d)?[wtro])+");

    /** A RIDE; its text, if it is TOLD. */
    record Ride(int kind, int n, String text) {
    }

    /** A BEAST. */
    record Beast(int sort, int place, int strength, int since) {
    }

    String page = "";
    String grounds = null;
    List<Integer> places = new ArrayList<>();
    final List<int[]> sorts = new ArrayList<>();
    final List<Ride> rides = new ArrayList<>();
    List<Beast> beasts = new ArrayList<>();
    List<Integer> hay = new ArrayList<>();
    List<Integer> letters = new ArrayList<>();
    private List<Beast> keptBeasts = null;
    private List<Integer> keptHay = null;
    private List<Integer> keptLetters = null;
    private int roads = 0;
    private int searches = 0;
    private int fewests = 0;

    // ---- texts

    int letters(long w) {
        StringBuilder come = new StringBuilder();
        for (long rest = w; rest != 0; rest >>>= 8) {
            char c = (char) (rest & 0xff);
            if (c > 126 || c == 0) return OUTSIDE;
            come.append(c);
        }
        if (page.length() + come.length() > 90) return FULL;
        page += come;
        return page.length();
    }

    int blank() {
        int had = page.length();
        page = "";
        return had;
    }

    int fault(int sort) {
        if (sort < 0 || sort > 2) return OUTSIDE;
        for (int i = 0; i < page.length(); i++) {
            if (!begins(sort, page.substring(0, i + 1))) return i;
        }
        return page.length();
    }

    private static boolean begins(int sort, String text) {
        if (sort == 0) return isRoad(text) || isRoad(text + "1");
        Matcher m = (sort == 1 ? SORT : TOLD).matcher(text);
        return m.matches() || m.hitEnd();
    }

    private static boolean isRoad(String text) {
        int miles = text.chars().filter(Character::isDigit).map(c -> c - '0').sum();
        long stars = text.chars().filter(c -> c == '*').count();
        return ROAD.matcher(text).matches() && miles <= 24 && (stars < 7 || stars == 7 && text.endsWith("*"));
    }

    int road() {
        if (!isRoad(page)) return STATE;
        StringBuilder all = new StringBuilder();
        places = new ArrayList<>(List.of(0));
        for (int i = 0; i < page.length(); i++) {
            char c = page.charAt(i);
            if (c == '*') places.add(all.length());
            else if (c <= '9') all.append(String.valueOf("fhs".indexOf(page.charAt(i - 1))).repeat(c - '0'));
        }
        if (!page.endsWith("*")) places.add(all.length());
        grounds = all.toString();
        page = "";
        beasts = new ArrayList<>();
        letters = new ArrayList<>();
        hay = new ArrayList<>();
        for (int p = 0; p < end(); p++) hay.add(0);
        keptBeasts = null;
        roads++;
        return places.size();
    }

    int sort() {
        Matcher m = SORT.matcher(page);
        if (!m.matches()) return STATE;
        if (sorts.size() == 4) return FULL;
        int[] s = new int[7];
        for (int i = 0; i < 7; i++) s[i] = Integer.parseInt(m.group(i + 1));
        sorts.add(s);
        page = "";
        return sorts.size() - 1;
    }

    int ride(int kind, int n) {
        if (kind < 0 || kind > 4 || n < 0 || n > List.of(2, 26, 0, 0, 12).get(kind)) return OUTSIDE;
        return addRide(new Ride(kind, n, null));
    }

    int tell() {
        return TOLD.matcher(page).matches() ? addRide(new Ride(5, 0, page)) : STATE;
    }

    private int addRide(Ride r) {
        if (rides.size() == 8) return FULL;
        if (r.kind == 5) page = "";
        rides.add(r);
        return rides.size() - 1;
    }

    int as(int ride, int kind) {
        if (!has(rides, ride)) return UNKNOWN;
        if (kind < 0 || kind > 5) return OUTSIDE;
        int its = rides.get(ride).kind;
        return kind == 0 || kind == its || kind == 3 && its == 4 ? ride : NONE;
    }

    int roadTold(int what) {
        if (grounds == null) return STATE;
        if (what == 0) return grounds.length();
        if (what == 1) return places.size();
        if (what >= 10 && what <= 17) return has(places, what - 10) ? places.get(what - 10) : NONE;
        if (what >= 30 && what <= 53) return what - 30 < grounds.length() ? ground(what - 30) : NONE;
        return OUTSIDE;
    }

    int sortTold(int sort, int what) {
        if (!has(sorts, sort)) return UNKNOWN;
        return in(what, 0, 6) ? sorts.get(sort)[what] : OUTSIDE;
    }

    int takes(int sort, int ground, int pace, int what) {
        if (!has(sorts, sort)) return UNKNOWN;
        if (!in(ground, 0, 2) || !in(pace, 0, 2) || !in(what, 0, 1)) return OUTSIDE;
        int[] s = sorts.get(sort);
        return what == 0 ? minutes(s, ground, pace) : loss(s, ground, pace);
    }

    // ---- beasts

    int beast(int sort, int place, int strength, int since) {
        if (!has(sorts, sort)) return UNKNOWN;
        if (grounds == null) return STATE;
        if (!in(place, 0, end() - 1) || !in(strength, 0, sorts.get(sort)[0]) || !in(since, 0, 9999)) return OUTSIDE;
        if (beasts.size() == 12) return FULL;
        beasts.add(new Beast(sort, place, strength, since));
        return beasts.size() - 1;
    }

    int about(int beast, int what) {
        if (!has(beasts, beast)) return UNKNOWN;
        Beast b = beasts.get(beast);
        return in(what, 0, 3) ? new int[] {b.sort, b.place, b.strength, b.since}[what] : OUTSIDE;
    }

    int strength(int beast, int minute) {
        if (!has(beasts, beast)) return UNKNOWN;
        return in(minute, 0, 9999) ? at(beasts.get(beast), minute) : OUTSIDE;
    }

    int lead(int beast, int place) {
        if (!has(beasts, beast)) return UNKNOWN;
        if (!has(places, place)) return OUTSIDE;
        Beast b = beasts.get(beast);
        beasts.set(beast, new Beast(b.sort, place, b.strength, b.since));
        return b.place;
    }

    // ---- rides

    int tried(int ride, int minute) {
        int refusal = refusal(ride, minute);
        return refusal < 0 ? refusal : minutes(new Going(this, beasts, minute).by(rides.get(ride)));
    }

    private int refusal(int ride, int minute) {
        if (!has(rides, ride)) return UNKNOWN;
        if (grounds == null) return STATE;
        return in(minute, 0, 9999) ? 0 : OUTSIDE;
    }

    private static int minutes(Going g) {
        return g.wrong == NONE ? g.minutes : STATE;
    }

    int left(int ride, int minute, int beast, int what) {
        if (has(rides, ride) && grounds != null && !has(beasts, beast)) return UNKNOWN;
        int refusal = refusal(ride, minute);
        if (refusal < 0) return refusal;
        if (!in(what, 0, 2)) return OUTSIDE;
        Going g = new Going(this, beasts, minute).by(rides.get(ride));
        if (g.wrong != NONE) return STATE;
        return new int[] {g.place[beast], g.strength[beast], g.ridden[beast] ? 1 : 0}[what];
    }

    int way(int ride, int minute, int mile, int what) {
        int refusal = refusal(ride, minute);
        if (refusal < 0) return refusal;
        if (!in(mile, 0, grounds.length() - 1) || !in(what, 0, 1)) return OUTSIDE;
        Going g = new Going(this, beasts, minute).by(rides.get(ride));
        return g.wrong != NONE ? STATE : what == 0 ? g.paces.get(mile) : g.mounts.get(mile);
    }

    int ridden(int ride, int minute) {
        int refusal = refusal(ride, minute);
        if (refusal < 0) return refusal;
        Going g = new Going(this, beasts, minute).by(rides.get(ride));
        if (g.wrong != NONE) return STATE;
        beasts = g.stand();
        return g.minutes;
    }

    int wrong(int ride, int minute) {
        if (!has(rides, ride)) return UNKNOWN;
        if (grounds == null || rides.get(ride).kind != 5) return STATE;
        return in(minute, 0, 9999) ? new Going(this, beasts, minute).by(rides.get(ride)).wrong : OUTSIDE;
    }

    int sooner(int ride, int other, int minute) {
        int one = tried(ride, minute);
        int two = tried(other, minute);
        if (one == UNKNOWN || two == UNKNOWN) return -100001;
        if (one == OUTSIDE) return -100002;
        return one == STATE || two == STATE ? -100003 : one - two;
    }

    // ---- stables

    int set(int sort, int k, int what) {
        if (!has(sorts, sort)) return UNKNOWN;
        if (grounds == null) return STATE;
        if (!in(k, 0, places.size() - 2) || !in(what, 0, 1)) return OUTSIDE;
        if (searches == 20) return STATE;
        searches++;
        int set = 0;
        int least = Integer.MAX_VALUE;
        for (int bits = 0; bits < 1 << end(); bits += 2) {
            if (Integer.bitCount(bits) != k) continue;
            List<Beast> fresh = new ArrayList<>();
            for (int p = 0; p < end(); p++) {
                if (p == 0 || (bits & 1 << p) != 0) fresh.add(new Beast(sort, p, sorts.get(sort)[0], 0));
            }
            int minutes = new Going(this, fresh, 0).by(new Ride(3, 0, null)).minutes;
            if (minutes >= least) continue;
            least = minutes;
            set = bits;
        }
        return what == 0 ? set : least;
    }

    int gap(int sort, int place, int pace) {
        if (!has(sorts, sort)) return UNKNOWN;
        if (grounds == null) return STATE;
        if (!has(places, place) || !in(pace, 0, 2)) return OUTSIDE;
        int strength = sorts.get(sort)[0];
        int done = 0;
        while (places.get(place) + done < grounds.length()) {
            int loss = loss(sorts.get(sort), ground(places.get(place) + done), pace);
            if (strength < loss) break;
            strength -= loss;
            done++;
        }
        return done;
    }

    private int bestWithout(int shut, int minute) {
        List<Beast> there = new ArrayList<>(beasts);
        there.removeIf(b -> b.place != NONE && (shut & 1 << b.place) != 0);
        return new Going(this, there, minute).by(new Ride(3, 0, null)).minutes;
    }

    int missed(int minute, int what) {
        if (grounds == null) return STATE;
        if (!in(minute, 0, 9999) || !in(what, 0, 1)) return OUTSIDE;
        int place = 0;
        for (int p = 1; p < end(); p++) {
            if (bestWithout(1 << p, minute) > bestWithout(1 << place, minute)) place = p;
        }
        return what == 0 ? place : bestWithout(1 << place, minute) - bestWithout(0, minute);
    }

    int hay(int place, int v) {
        if (grounds == null) return STATE;
        return in(place, 0, end() - 1) && in(v, 0, 999) ? hay.set(place, v) : OUTSIDE;
    }

    int shut(int minute, int price, int what) {
        if (grounds == null) return STATE;
        if (!in(minute, 0, 9999) || !in(price, 0, 99) || !in(what, 0, 1)) return OUTSIDE;
        if (searches == 20) return STATE;
        searches++;
        int set = 0;
        int least = Integer.MAX_VALUE;
        for (int bits = 0; bits < 1 << end(); bits++) {
            int cost = price * bestWithout(bits, minute);
            for (int p = 0; p < end(); p++) cost += (bits & 1 << p) != 0 ? 0 : hay.get(p);
            if (cost >= least) continue;
            least = cost;
            set = bits;
        }
        return what == 0 ? set : least;
    }

    // ---- letters

    int letter(int minute) {
        if (!in(minute, letters.isEmpty() ? 0 : letters.get(letters.size() - 1), 9999)) return OUTSIDE;
        if (letters.size() == 10) return FULL;
        letters.add(minute);
        return letters.size();
    }

    int day(int ride, int what) {
        if (!has(rides, ride)) return UNKNOWN;
        if (grounds == null) return STATE;
        if (!in(what, 0, 2)) return OUTSIDE;
        int[] told = day(ride, beasts);
        return told == null ? STATE : told[what];
    }

    /** Null, if a TOLD fails. */
    private int[] day(int ride, List<Beast> first) {
        int[] told = new int[3];
        List<Beast> all = first;
        for (int minute : letters) {
            Going g = new Going(this, all, minute).by(rides.get(ride));
            if (g.wrong != NONE) return null;
            all = g.stand();
            told[0] += g.minutes;
            told[1] = Math.max(told[1], g.minutes);
        }
        told[2] = (int) all.stream().filter(b -> b.place == NONE).count();
        return told;
    }

    int fewest(int sort, int ride, int limit) {
        if (!has(sorts, sort) || !has(rides, ride)) return UNKNOWN;
        if (grounds == null || rides.get(ride).kind == 5) return STATE;
        if (!in(limit, 0, 9999)) return OUTSIDE;
        if (fewests == 10) return STATE;
        fewests++;
        for (int n = 1; n <= 4; n++) {
            List<Beast> fresh = new ArrayList<>();
            for (int i = 0; i < n * end(); i++) fresh.add(new Beast(sort, i / n, sorts.get(sort)[0], 0));
            if (fresh.size() <= 12 && day(ride, fresh)[1] <= limit) return n;
        }
        return NONE;
    }

    // ---- what is told

    int image() {
        keptBeasts = new ArrayList<>(beasts);
        keptHay = new ArrayList<>(hay);
        keptLetters = new ArrayList<>(letters);
        return beasts.size();
    }

    int restore() {
        if (keptBeasts == null) return STATE;
        beasts = new ArrayList<>(keptBeasts);
        hay = new ArrayList<>(keptHay);
        letters = new ArrayList<>(keptLetters);
        return beasts.size();
    }

    int count(int what) {
        int lost = (int) beasts.stream().filter(b -> b.place == NONE).count();
        int[] counts = {sorts.size(), beasts.size(), rides.size(), letters.size(), page.length(), lost, roads, searches,
            fewests};
        return in(what, 0, 8) ? counts[what] : OUTSIDE;
    }

    long digest() {
        List<Integer> all = new ArrayList<>();
        if (grounds != null) {
            all.add(grounds.length());
            all.add(places.size());
            all.addAll(places);
            for (int i = 0; i < grounds.length(); i++) all.add(ground(i));
            all.addAll(hay);
        }
        for (int[] s : sorts) for (int v : s) all.add(v);
        for (Beast b : beasts) all.addAll(List.of(b.sort, b.place, b.strength, b.since));
        for (int r = 0; r < rides.size(); r++) {
            all.addAll(List.of(rides.get(r).kind, rides.get(r).n));
            if (grounds != null) all.add(tried(r, 100));
        }
        all.addAll(letters);
        for (char c : page.toCharArray()) all.add((int) c);
        for (int what = 0; what <= 8; what++) all.add(count(what));
        long h = 389;
        for (int v : all) h = 31 * h + v;
        return h;
    }

    // ---- what the calls are made of

    static boolean in(int v, int least, int most) {
        return v >= least && v <= most;
    }

    private static boolean has(List<?> all, int i) {
        return in(i, 0, all.size() - 1);
    }

    int end() {
        return places.size() - 1;
    }

    int ground(int mile) {
        return grounds.charAt(mile) - '0';
    }

    static int minutes(int[] sort, int ground, int pace) {
        return sort[1 + pace] + (ground == 1 ? 2 : ground == 2 ? 1 : 0);
    }

    static int loss(int[] sort, int ground, int pace) {
        return sort[4 + pace] + (ground == 1 && pace > 0 || ground == 2 ? 1 : 0);
    }

    int at(Beast b, int minute) {
        int more = minute > b.since ? (minute - b.since) / 30 : 0;
        return Math.min(sorts.get(b.sort)[0], b.strength + more);
    }

    /** The STEPS of a TOLD: what it does ahead of the MILE ("" for nothing), how it goes the MILE. */
    static List<String[]> steps(String text) {
        List<String[]> all = new ArrayList<>();
        Matcher m = STEP.matcher(text);
        while (m.find()) all.add(new String[] {m.group(1) == null ? "" : m.group(1), m.group(2)});
        return all;
    }
}
