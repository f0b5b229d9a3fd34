import java.lang.reflect.Method;
import java.util.Arrays;
import java.util.HashMap;
import java.util.Map;
import java.util.Random;

/** All promises, 1 to 34: runs of up to 512 calls of any kind, each answer beside the Model's. */
public final class ModelTest {
    private static final String BEAST = "beast sort place strength minute";
    /** Each call of the face with what its numbers are. */
    private static final String[] CALLS = {"letters word", "blank", "fault text", "road", "sort", "ride kind n", "tell",
        "as ride kind", "roadTold whatOfRoad", "sortTold sort what", "takes sort ground pace what",
        BEAST, "about beast what", "strength beast minute", "lead beast place",
        "tried ride minute", "left ride minute beast what", "way ride minute mile what", "ridden ride minute",
        "wrong ride minute", "sooner ride ride minute", "set sort k what", "gap sort place pace", "missed minute what",
        "hay place hay", "shut minute price what", "letter later", "day ride what", "fewest sort ride minutes", "image",
        "restore", "count what", "digest"};
    private static final int MOST_CALLS = 512;
    private static final Map<String, Method> OF_CLASS = new HashMap<>();
    private static final Map<String, Method> OF_MODEL = new HashMap<>();
    private final long seed;
    private final Random random;
    private final FreshHorses x = new FreshHorses();
    private final Model model = new Model();
    private int calls = 0;

    private ModelTest(long seed) {
        this.seed = seed;
        random = new Random(seed);
    }

    public static void main(String[] args) throws ReflectiveOperationException {
        for (Method m : FreshHorses.class.getDeclaredMethods()) OF_CLASS.put(m.getName(), m);
        for (Method m : Model.class.getDeclaredMethods()) {
            Method face = OF_CLASS.get(m.getName());
            boolean isCall = face != null && Arrays.equals(face.getParameterTypes(), m.getParameterTypes());
            if (isCall) OF_MODEL.put(m.getName(), m);
        }
        int runs = args.length > 0 ? Integer.parseInt(args[0]) : 300;
        for (int seed = 0; seed < runs; seed++) new ModelTest(seed).run();
        Due.end();
    }

    private void run() throws ReflectiveOperationException {
        if (random.nextInt(8) > 0) ready();
        // ready(), the longest of these, makes fewer than 60 calls
        while (calls < MOST_CALLS - 60) {
            int kind = random.nextInt(200);
            if (kind == 0) ready();
            else if (kind == 1) fill();
            else if (kind < 5) read("sort", sort());
            else if (kind < 12) read("tell", random.nextInt(3) == 0 ? told() : goodRide());
            else if (kind < 16) any(BEAST.split(" "));
            else any(CALLS[random.nextInt(CALLS.length)].split(" "));
        }
        call("digest");
    }

    private void ready() throws ReflectiveOperationException {
        read("road", road());
        int sorts = 1 + random.nextInt(4);
        for (int i = 0; i < sorts; i++) read("sort", sort());
        int beasts = random.nextInt(14);
        for (int i = 0; i < beasts; i++) any(BEAST.split(" "));
        for (int kind = 0; kind < 5; kind++) {
            if (random.nextInt(4) > 0) call("ride", kind, random.nextInt(new int[] {3, 27, 1, 1, 5}[kind]));
        }
    }

    /** THE PAGE, until it is full. */
    private void fill() throws ReflectiveOperationException {
        for (int i = 0; i < 13; i++) call("letters", Due.word("oowctrod".substring(random.nextInt(6))));
    }

    private void any(String[] told) throws ReflectiveOperationException {
        Object[] numbers = new Object[told.length - 1];
        for (int i = 0; i < numbers.length; i++) {
            numbers[i] = told[i + 1].equals("word") ? (Object) word() : (Object) number(told[i + 1]);
        }
        call(told[0], numbers);
    }

    private long call(String name, Object... numbers) throws ReflectiveOperationException {
        calls++;
        long got = ((Number) OF_CLASS.get(name).invoke(x, numbers)).longValue();
        long want = ((Number) OF_MODEL.get(name).invoke(model, numbers)).longValue();
        Due.is("run " + seed + ", call " + calls + ": " + name + Arrays.toString(numbers), got, want);
        return got;
    }

    private void read(String as, String text) throws ReflectiveOperationException {
        if (random.nextInt(10) > 0) call("blank");
        for (int from = 0; from < text.length(); from += 8) {
            call("letters", Due.word(text.substring(from, Math.min(text.length(), from + 8))));
        }
        if (random.nextInt(4) == 0) call("fault", random.nextInt(3));
        call(as);
    }

    // ---- numbers: mostly as told, at times just outside, at times far from it

    private int number(String of) {
        int far = random.nextInt(40);
        if (far == 0) return random.nextInt();
        if (far == 1) return random.nextBoolean() ? Integer.MIN_VALUE : Integer.MAX_VALUE;
        int most = most(of);
        if (far < 4) return -1;
        if (far < 7) return most + 1;
        if (far < 9) return most;
        if (of.startsWith("minute")) return random.nextInt(random.nextInt(4) == 0 ? 10000 : 600);
        if (of.equals("later")) return lastLetter() + random.nextInt(90);
        return random.nextInt(Math.max(1, most + 1));
    }

    private int lastLetter() {
        return model.letters.isEmpty() ? 0 : model.letters.get(model.letters.size() - 1);
    }

    private int most(String of) {
        switch (of) {
            case "text": case "ground": case "pace": return 2;
            case "kind": return 5;
            case "n": return random.nextInt(3) == 0 ? 0 : random.nextInt(3) == 0 ? 26 : 2;
            case "sort": return model.sorts.size() - 1;
            case "beast": return model.beasts.size() - 1;
            case "ride": return model.rides.size() - 1;
            case "place": return model.places.size() - 2;
            case "strength": return random.nextInt(13);
            case "mile": return model.grounds == null ? 0 : model.grounds.length() - 1;
            case "k": return model.places.size() - 2;
            case "hay": return random.nextBoolean() ? 999 : 200;
            case "price": return random.nextBoolean() ? 99 : 5;
            case "what": return random.nextInt(4) == 0 ? 8 : 1 + random.nextInt(3);
            case "whatOfRoad": return new int[] {1, 17, 53}[random.nextInt(3)];
            default: return 9999;
        }
    }

    // ---- texts

    private long word() {
        if (random.nextInt(4) == 0) return random.nextLong() >>> 8 * random.nextInt(8);
        String all = "fhs123456789*:,;0cdwtro";
        StringBuilder text = new StringBuilder();
        int many = random.nextInt(9);
        for (int i = 0; i < many; i++) text.append(all.charAt(random.nextInt(all.length())));
        return Due.word(text.toString());
    }

    /** Now and then one letter of a text is another one. */
    private String spoiled(String text) {
        if (text.isEmpty() || random.nextInt(8) > 0) return text;
        int at = random.nextInt(text.length());
        char c = "fhs19*:,;0cdwto".charAt(random.nextInt(15));
        return text.substring(0, at) + (random.nextBoolean() ? "" : String.valueOf(c)) + text.substring(at + 1);
    }

    /** Now and then it has a few MILES or PLACES too many. */
    private String road() {
        StringBuilder text = new StringBuilder();
        int left = random.nextInt(3) == 0 ? 24 + random.nextInt(8) / 7 : 1 + random.nextInt(24);
        int most = random.nextBoolean() ? 9 : 1 + random.nextInt(3);
        int stars = random.nextInt(8) == 0 ? 8 : 7;
        while (left > 0 && stars > 0) {
            int miles = 1 + random.nextInt(Math.min(most, left));
            text.append("fffhs".charAt(random.nextInt(5))).append(miles);
            left -= miles;
            if (random.nextInt(4) == 0) continue;
            text.append('*');
            stars--;
        }
        return spoiled(text.toString());
    }

    private String sort() {
        StringBuilder text = new StringBuilder();
        text.append(1 + random.nextInt(12)).append(':');
        boolean falling = random.nextBoolean();
        for (int i = 0; i < 3; i++) {
            int minutes = falling ? 20 - 6 * i + random.nextInt(5) : 1 + random.nextInt(30);
            text.append(minutes).append(i < 2 ? "," : ";");
        }
        for (int i = 0; i < 3; i++) {
            int loss = falling ? i + random.nextInt(2) : random.nextInt(random.nextInt(4) == 0 ? 10 : 3);
            text.append(loss).append(i < 2 ? "," : "");
        }
        return spoiled(text.toString());
    }

    private String told() {
        StringBuilder text = new StringBuilder();
        int steps = 1 + random.nextInt(25);
        for (int i = 0; i < steps; i++) {
            int what = random.nextInt(8);
            if (what == 0) text.append('c').append(random.nextInt(13));
            if (what == 1) text.append('d');
            text.append("wtro".charAt(random.nextInt(4)));
        }
        return spoiled(text.toString());
    }

    /** One that can mostly be, as BEASTS stand at the minute 100. */
    private String goodRide() {
        if (model.grounds == null) return told();
        StringBuilder text = new StringBuilder();
        int[] has = model.beasts.stream().mapToInt(b -> model.at(b, 100)).toArray();
        int mount = -1;
        for (int mile = 0; mile < model.grounds.length(); mile++) {
            int next = taken(mile, mount);
            int rides = next < 0 ? mount : next;
            int pace = rides < 0 ? 3 : random.nextInt(3);
            while (pace >= 0 && pace < 3 && loss(rides, mile, pace) > has[rides]) pace--;
            if (pace < 0) {
                if (mount >= 0) text.append('d');
                rides = -1;
                pace = 3;
            } else if (next >= 0) {
                text.append('c').append(next);
            }
            if (pace < 3) has[rides] -= loss(rides, mile, pace);
            text.append("wtro".charAt(pace));
            mount = rides;
        }
        return spoiled(text.toString());
    }

    /** A BEAST that stands where a MILE begins and may be taken there, or -1. */
    private int taken(int mile, int mount) {
        int place = model.places.indexOf(mile);
        for (int b = 0; b < model.beasts.size() && place >= 0; b++) {
            if (model.beasts.get(b).place() == place && b != mount && random.nextBoolean()) return b;
        }
        return -1;
    }

    private int loss(int beast, int mile, int pace) {
        return Model.loss(model.sorts.get(model.beasts.get(beast).sort()), model.ground(mile), pace);
    }
}
