import java.util.ArrayList;
import java.util.List;

/** One RIDE of the Model, with BEASTS that are given, begun at a minute. */
final class Going {
    private static final int NONE = -1, ON_FOOT = 3, NEVER = 1 << 20;
    private final Model model;
    private final List<Model.Beast> all;
    private final int start;
    private final int miles;
    final int[] place;
    final int[] strength;
    final boolean[] ridden;
    private final int[] leftAt;
    final List<Integer> paces = new ArrayList<>();
    final List<Integer> mounts = new ArrayList<>();
    int minutes = 0;
    int wrong = NONE;
    private int mount = NONE;
    private int spare = 0;
    /** By MILE, BEAST and 1, strength: the MINUTES to THE END, 0 as long as they are not known. */
    private int[][][] known;

    Going(Model model, List<Model.Beast> all, int start) {
        this.model = model;
        this.all = all;
        this.start = start;
        miles = model.grounds.length();
        place = all.stream().mapToInt(Model.Beast::place).toArray();
        strength = all.stream().mapToInt(b -> model.at(b, start)).toArray();
        ridden = new boolean[all.size()];
        leftAt = new int[all.size()];
    }

    Going by(Model.Ride ride) {
        if (ride.kind() == 5) {
            told(Model.steps(ride.text()));
        } else {
            spare = ride.kind() == 4 ? ride.n() : 0;
            known = new int[miles + 1][all.size() + 1][13];
            for (int mile = 0; mile < miles; mile++) {
                if (ride.kind() >= 3) bestMile(mile);
                else plainMile(ride, mile);
            }
        }
        if (wrong == NONE) leave(miles);
        return this;
    }

    /** The BEASTS as they stand behind it. */
    List<Model.Beast> stand() {
        List<Model.Beast> then = new ArrayList<>();
        for (int b = 0; b < all.size(); b++) {
            Model.Beast was = all.get(b);
            then.add(ridden[b] ? new Model.Beast(was.sort(), place[b], strength[b], leftAt[b]) : was);
        }
        return then;
    }

    private int placeAt(int mile) {
        return model.places.indexOf(mile);
    }

    private boolean standsAt(int b, int mile) {
        return b != mount && placeAt(mile) != NONE && place[b] == placeAt(mile);
    }

    private void leave(int mile) {
        if (mount == NONE) return;
        place[mount] = placeAt(mile);
        leftAt[mount] = start + minutes;
        mount = NONE;
    }

    private void take(int b, int mile) {
        leave(mile);
        mount = b;
    }

    private int[] sort(int b) {
        return model.sorts.get(all.get(b).sort());
    }

    private int loss(int b, int mile, int pace) {
        return Model.loss(sort(b), model.ground(mile), pace);
    }

    private void go(int mile, int pace) {
        if (pace == ON_FOOT) leave(mile);
        paces.add(pace);
        mounts.add(mount);
        if (mount == NONE) {
            minutes += 25;
            return;
        }
        minutes += Model.minutes(sort(mount), model.ground(mile), pace);
        strength[mount] -= loss(mount, mile, pace);
        ridden[mount] = true;
    }

    // ---- EVEN, GROUND, PRESS

    private void plainMile(Model.Ride ride, int mile) {
        int strongest = NONE;
        for (int b = 0; b < all.size(); b++) {
            if (standsAt(b, mile) && (strongest == NONE || strength[b] > strength[strongest])) strongest = b;
        }
        if (strongest != NONE && strength[strongest] > (mount == NONE ? 0 : strength[mount])) take(strongest, mile);
        go(mile, mount == NONE ? ON_FOOT : plainPace(ride, mile));
    }

    private int plainPace(Model.Ride ride, int mile) {
        int told = 0;
        if (ride.kind() == 0) told = ride.n();
        if (ride.kind() == 1) told = ride.n() / List.of(1, 3, 9).get(model.ground(mile)) % 3;
        if (ride.kind() == 2) {
            for (int pace = 2; pace > 0; pace--) {
                if (couldWalkOn(mile, pace)) return pace;
            }
        }
        while (told >= 0 && loss(mount, mile, told) > strength[mount]) told--;
        return told < 0 ? ON_FOOT : told;
    }

    private boolean couldWalkOn(int mile, int pace) {
        int rest = strength[mount] - loss(mount, mile, pace);
        for (int m = mile + 1; placeAt(m) == NONE && rest >= 0; m++) rest -= loss(mount, m, 0);
        return rest >= 0;
    }

    // ---- BEST, SPARING

    private void bestMile(int mile) {
        int least = toEnd(mile, mount, mount == NONE ? 0 : strength[mount]);
        for (int b : choices(mile, mount)) {
            if (onward(mile, b, b == NONE ? 0 : strength[b]) != least) continue;
            if (b == NONE) leave(mile);
            else if (b != mount) take(b, mile);
            break;
        }
        if (mount == NONE) {
            go(mile, ON_FOOT);
            return;
        }
        int pace = 0;
        while (pace < 2 && byPace(mile, mount, strength[mount], pace) != least) pace++;
        go(mile, pace);
    }

    /** What it may go on with, the first ahead. */
    private List<Integer> choices(int mile, int rides) {
        List<Integer> may = new ArrayList<>(List.of(rides));
        if (placeAt(mile) == NONE) return may;
        if (rides != NONE) may.add(NONE);
        for (int b = 0; b < all.size(); b++) {
            if (b != rides && all.get(b).place() == placeAt(mile)) may.add(b);
        }
        return may;
    }

    private int toEnd(int mile, int rides, int has) {
        if (mile == miles) return 0;
        if (known[mile][rides + 1][has] != 0) return known[mile][rides + 1][has];
        int least = NEVER;
        for (int b : choices(mile, rides)) {
            int with = b == NONE ? 0 : b == rides ? has : model.at(all.get(b), start);
            least = Math.min(least, onward(mile, b, with));
        }
        known[mile][rides + 1][has] = least;
        return least;
    }

    private int onward(int mile, int rides, int has) {
        if (rides == NONE) return 25 + toEnd(mile + 1, NONE, 0);
        int least = NEVER;
        for (int pace = 0; pace < 3; pace++) least = Math.min(least, byPace(mile, rides, has, pace));
        return least;
    }

    private int byPace(int mile, int rides, int has, int pace) {
        int rest = has - loss(rides, mile, pace);
        if (rest < spare) return NEVER;
        return Math.min(NEVER, Model.minutes(sort(rides), model.ground(mile), pace) + toEnd(mile + 1, rides, rest));
    }

    // ---- TOLD

    private void told(List<String[]> steps) {
        for (int mile = 0; mile < miles; mile++) {
            if (mile >= steps.size() || !canBe(steps.get(mile), mile)) {
                wrong = mile;
                return;
            }
        }
        if (steps.size() > miles) wrong = miles;
    }

    private boolean canBe(String[] step, int mile) {
        if (step[0].equals("d")) {
            if (placeAt(mile) == NONE || mount == NONE) return false;
            leave(mile);
        } else if (!step[0].isEmpty()) {
            int b = Integer.parseInt(step[0].substring(1));
            if (b >= all.size() || !standsAt(b, mile)) return false;
            take(b, mile);
        }
        int pace = "wtro".indexOf(step[1]);
        if (pace == ON_FOOT ? mount != NONE : mount == NONE || loss(mount, mile, pace) > strength[mount]) return false;
        go(mile, pace);
        return true;
    }
}
