import java.util.ArrayList;
import java.util.List;

/** The document once more, as plainly as can be: all ways of a BEST are gone, one behind the other. */
final class Oracle {
    /** A BEAST. */
    static final class Beast {
        final int[] sort;
        int place;
        int strength;
        int since;

        Beast(int[] sort, int place, int strength, int since) {
            this.sort = sort;
            this.place = place;
            this.strength = strength;
            this.since = since;
        }

        Beast copy() {
            return new Beast(sort, place, strength, since);
        }

        int at(int minute) {
            int s = strength;
            for (int m = since + 30; m <= minute; m += 30) s++;
            return Math.min(s, sort[0]);
        }
    }

    /** How a RIDE went. */
    static final class Went {
        int minutes = 0;
        int[] paces;
        int[] mounts;
        int[] places;
        int[] strengths;
        int[] leftAt;
        boolean[] ridden;

        Went copy() {
            Went w = new Went();
            w.minutes = minutes;
            w.paces = paces.clone();
            w.mounts = mounts.clone();
            w.places = places.clone();
            w.strengths = strengths.clone();
            w.leftAt = leftAt.clone();
            w.ridden = ridden.clone();
            return w;
        }
    }

    final List<Integer> grounds = new ArrayList<>();
    final List<Integer> places = new ArrayList<>();
    private List<Beast> beasts;
    private int start;
    private int spare;
    private Went soonest;

    Oracle(String road) {
        places.add(0);
        for (int i = 0; i < road.length(); i++) {
            char c = road.charAt(i);
            if (c == '*') places.add(grounds.size());
            if (Character.isDigit(c)) {
                for (int d = '0'; d < c; d++) grounds.add("fhs".indexOf(road.charAt(i - 1)));
            }
        }
        if (places.get(places.size() - 1) != grounds.size()) places.add(grounds.size());
    }

    private static int minutes(int[] sort, int ground, int pace) {
        return sort[1 + pace] + new int[] {0, 2, 1}[ground];
    }

    private static int loss(int[] sort, int ground, int pace) {
        return sort[4 + pace] + (ground == 2 || ground == 1 && pace != 0 ? 1 : 0);
    }

    /** MINUTES and all else of a RIDE of a KIND that is not TOLD. */
    Went go(int kind, int n, int minute, List<Beast> all) {
        beasts = all;
        start = minute;
        Went w = new Went();
        w.paces = new int[grounds.size()];
        w.mounts = new int[grounds.size()];
        w.places = new int[all.size()];
        w.strengths = new int[all.size()];
        w.leftAt = new int[all.size()];
        w.ridden = new boolean[all.size()];
        for (int b = 0; b < all.size(); b++) {
            w.places[b] = all.get(b).place;
            w.strengths[b] = all.get(b).at(minute);
        }
        if (kind < 3) {
            plain(w, kind, n);
            return w;
        }
        spare = n;
        soonest = null;
        choose(w, 0, -1);
        return soonest;
    }

    private void leave(Went w, int mount, int mile) {
        if (mount < 0) return;
        w.places[mount] = places.indexOf(mile);
        w.leftAt[mount] = start + w.minutes;
    }

    private void ride(Went w, int mile, int mount, int pace) {
        int[] sort = beasts.get(mount).sort;
        w.minutes += minutes(sort, grounds.get(mile), pace);
        w.strengths[mount] -= loss(sort, grounds.get(mile), pace);
        w.paces[mile] = pace;
        w.mounts[mile] = mount;
        w.ridden[mount] = true;
        w.places[mount] = -1;
    }

    private void walk(Went w, int mile) {
        w.minutes += 25;
        w.paces[mile] = 3;
        w.mounts[mile] = -1;
    }

    private void plain(Went w, int kind, int n) {
        int mount = -1;
        for (int mile = 0; mile < grounds.size(); mile++) {
            int place = places.indexOf(mile);
            if (place >= 0) {
                int better = mount;
                for (int b = 0; b < beasts.size(); b++) {
                    if (w.places[b] != place || b == mount) continue;
                    if (w.strengths[b] > (better < 0 ? 0 : w.strengths[better])) better = b;
                }
                if (better != mount) {
                    leave(w, mount, mile);
                    mount = better;
                }
            }
            int pace = mount < 0 ? 3 : paceOf(w, kind, n, mile, mount);
            if (pace == 3) {
                leave(w, mount, mile);
                mount = -1;
                walk(w, mile);
            } else {
                ride(w, mile, mount, pace);
            }
        }
        leave(w, mount, grounds.size());
    }

    private int paceOf(Went w, int kind, int n, int mile, int mount) {
        int[] sort = beasts.get(mount).sort;
        int ground = grounds.get(mile);
        int first = kind == 0 ? n : 0;
        if (kind == 1) first = Integer.parseInt(("" + Integer.toString(n + 27, 3)).substring(3 - ground, 4 - ground));
        if (kind == 2) {
            for (int pace = 2; pace >= 0; pace--) {
                int s = w.strengths[mount] - loss(sort, ground, pace);
                boolean can = s >= 0;
                for (int m = mile + 1; m < grounds.size() && !places.contains(m); m++) {
                    s -= loss(sort, grounds.get(m), 0);
                    can &= s >= 0;
                }
                if (can) return pace;
            }
        }
        for (int pace = first; pace >= 0; pace--) {
            if (loss(sort, ground, pace) <= w.strengths[mount]) return pace;
        }
        return 3;
    }

    /** At a MILE, ahead of what can be taken there. */
    private void choose(Went w, int mile, int mount) {
        if (soonest != null && w.minutes >= soonest.minutes) return;
        if (mile == grounds.size()) {
            soonest = w.copy();
            leave(soonest, mount, mile);
            return;
        }
        go(w, mile, mount);
        int place = places.indexOf(mile);
        if (place < 0) return;
        if (mount >= 0) {
            Went next = w.copy();
            leave(next, mount, mile);
            go(next, mile, -1);
        }
        for (int b = 0; b < beasts.size(); b++) {
            if (w.places[b] != place || b == mount) continue;
            Went next = w.copy();
            leave(next, mount, mile);
            go(next, mile, b);
        }
    }

    private void go(Went w, int mile, int mount) {
        if (mount < 0) {
            Went next = w.copy();
            walk(next, mile);
            choose(next, mile + 1, -1);
            return;
        }
        int[] sort = beasts.get(mount).sort;
        for (int pace = 0; pace < 3; pace++) {
            if (w.strengths[mount] - loss(sort, grounds.get(mile), pace) < spare) continue;
            Went next = w.copy();
            ride(next, mile, mount, pace);
            choose(next, mile + 1, mount);
        }
    }

    static void settle(List<Beast> all, Went w) {
        for (int b = 0; b < all.size(); b++) {
            if (!w.ridden[b]) continue;
            all.get(b).place = w.places[b];
            all.get(b).strength = w.strengths[b];
            all.get(b).since = w.leftAt[b];
        }
    }

    /** MINUTES together, of the slowest, BEASTS LOST. */
    int[] day(int kind, int n, List<Integer> letters, List<Beast> all) {
        List<Beast> mine = new ArrayList<>();
        for (Beast b : all) mine.add(b.copy());
        int[] told = new int[3];
        for (int minute : letters) {
            Went w = go(kind, n, minute, mine);
            settle(mine, w);
            told[0] += w.minutes;
            told[1] = Math.max(told[1], w.minutes);
        }
        for (Beast b : mine) told[2] += b.place < 0 ? 1 : 0;
        return told;
    }

    int fewest(int[] sort, int kind, int n, int limit, List<Integer> letters) {
        for (int each = 1; each <= 4; each++) {
            List<Beast> mine = new ArrayList<>();
            for (int p = 0; p < places.size() - 1; p++) {
                for (int i = 0; i < each; i++) mine.add(new Beast(sort, p, sort[0], 0));
            }
            if (mine.size() <= 12 && day(kind, n, letters, mine)[1] <= limit) return each;
        }
        return -1;
    }

    /** The PLACES as bits, MINUTES. */
    int[] set(int[] sort, int k) {
        int[] told = {0, Integer.MAX_VALUE};
        for (int bits = 0; bits < 1 << places.size() - 1; bits++) {
            if ((bits & 1) != 0 || Integer.bitCount(bits) != k) continue;
            List<Beast> mine = new ArrayList<>();
            for (int p = 0; p < places.size() - 1; p++) {
                if (p == 0 || (bits >> p & 1) != 0) mine.add(new Beast(sort, p, sort[0], 0));
            }
            int minutes = go(3, 0, 0, mine).minutes;
            if (minutes < told[1]) told = new int[] {bits, minutes};
        }
        return told;
    }

    private int without(int bits, int minute, List<Beast> all) {
        List<Beast> mine = new ArrayList<>();
        for (Beast b : all) {
            if (b.place < 0 || (bits >> b.place & 1) == 0) mine.add(b);
        }
        return go(3, 0, minute, mine).minutes;
    }

    int[] missed(int minute, List<Beast> all) {
        int[] told = {0, -1};
        for (int p = 0; p < places.size() - 1; p++) {
            int more = without(1 << p, minute, all) - without(0, minute, all);
            if (more > told[1]) told = new int[] {p, more};
        }
        return told;
    }

    int[] shut(int minute, int price, int[] hay, List<Beast> all) {
        int[] told = {0, Integer.MAX_VALUE};
        for (int bits = 0; bits < 1 << places.size() - 1; bits++) {
            int cost = price * without(bits, minute, all);
            for (int p = 0; p < places.size() - 1; p++) cost += (bits >> p & 1) == 0 ? hay[p] : 0;
            if (cost < told[1]) told = new int[] {bits, cost};
        }
        return told;
    }
}
