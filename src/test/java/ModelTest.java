import java.util.Random;

/** Drawn runs of calls on new objects, each answer held against Model's. */
public final class ModelTest {
    private static final int RUNS = 600;
    private static final int CALLS = 512;
    private static final int[] EDGES = {Integer.MIN_VALUE, Integer.MAX_VALUE, -1, 0, 1, 126, 127};

    private final Checks checks = new Checks();
    private final Random random;
    private final int run;
    private final KeyStreets x = new KeyStreets();
    private final Model m = new Model();
    private final StringBuilder story = new StringBuilder();
    private int calls;

    private ModelTest(int run) {
        this.run = run;
        this.random = new Random(run);
    }

    public static void main(String[] args) {
        int wrong = 0;
        long calls = 0;
        for (int run = 0; run < RUNS && wrong < 5; run++) {
            ModelTest test = new ModelTest(run);
            wrong += test.goOn() ? 0 : 1;
            calls += test.calls;
        }
        System.out.println("ModelTest: " + calls + " calls, " + wrong + " runs not as due");
        if (wrong > 0 || calls == 0) System.exit(1);
    }

    private boolean goOn() {
        // Half of the runs begin as one would use the class; the rest meet it as it is new.
        if (run % 2 == 0) {
            type(cityText());
            same("city()", x.city(), m.city());
            readTune(0);
            readTune(1);
        }
        while (calls < CALLS && !checks.anyWrong()) step();
        if (checks.anyWrong()) System.out.println("  run " + run + ":" + story);
        return !checks.anyWrong();
    }

    private void same(String call, long got, long want) {
        calls++;
        story.append(' ').append(call).append('=').append(got);
        checks.due(call, got, want);
    }

    /** A number that mostly is good, below the bound, but now and then is not. */
    private int near(int bound) {
        int draw = random.nextInt(20);
        if (draw == 0) return EDGES[random.nextInt(EDGES.length)];
        if (draw == 1) return bound + random.nextInt(3);
        return random.nextInt(bound);
    }

    private String cityText() {
        int corners = 2 + random.nextInt(4);
        int streets = 2 + random.nextInt(7);
        StringBuilder text = new StringBuilder().append(corners).append(';');
        String kinds = random.nextInt(3) == 0 ? "bbs" : random.nextInt(3) == 0 ? "s" : "smbpi";
        for (int i = 0; i < streets; i++) {
            int one = random.nextInt(corners);
            int other = (one + 1 + random.nextInt(corners - 1)) % corners;
            text.append(i > 0 ? "," : "").append(kinds.charAt(random.nextInt(kinds.length())));
            text.append(one).append(other).append((char) ('a' + random.nextInt(12)));
        }
        return text.toString();
    }

    private String tuneText() {
        StringBuilder text = new StringBuilder();
        int length = random.nextInt(3) == 0 ? 1 + random.nextInt(8) : 1 + random.nextInt(3);
        int range = random.nextInt(3) == 0 ? 2 : 12;
        for (int i = 0; i < length; i++) text.append((char) ('a' + random.nextInt(range) * (range == 2 ? 6 : 1)));
        return text.toString();
    }

    private String spoilt(String text) {
        StringBuilder spoilt = new StringBuilder(text);
        int place = random.nextInt(text.length());
        switch (random.nextInt(4)) {
            case 0: spoilt.setCharAt(place, "0123456;,smbpialz".charAt(random.nextInt(17))); break;
            case 1: spoilt.deleteCharAt(place); break;
            case 2: spoilt.setLength(place); break;
            default: spoilt.append(",s01am".charAt(random.nextInt(6)));
        }
        return spoilt.toString();
    }

    private void type(String text) {
        for (int i = 0; i < text.length() && calls < CALLS; i++) letter(text.charAt(i));
    }

    private void letter(int code) {
        same("letter(" + code + ")", x.letter(code), m.letter(code));
    }

    private void readTune(int which) {
        type(tuneText());
        same("tune(" + which + ")", x.tune(which), m.tune(which));
    }

    private void readCity() {
        if (random.nextInt(2) == 0) same("blank()", x.blank(), m.blank());
        type(random.nextInt(2) == 0 ? cityText() : spoilt(cityText()));
        same("fault()", x.fault(), m.fault());
        same("city()", x.city(), m.city());
        same("fault()", x.fault(), m.fault());
    }

    private void step() {
        int a;
        int b;
        int c;
        switch (random.nextInt(27)) {
            case 0: letter(near(127)); break;
            case 1: same("blank()", x.blank(), m.blank()); break;
            case 2: same("fault()", x.fault(), m.fault()); break;
            case 3: if (random.nextInt(6) == 0) readCity(); break;
            case 4: if (random.nextInt(3) == 0) readTune(random.nextInt(2)); break;
            case 5: a = near(2); same("tune(" + a + ")", x.tune(a), m.tune(a)); break;
            case 6: a = near(2); b = near(19); same("told(" + a + ", " + b + ")", x.told(a, b), m.told(a, b)); break;
            case 7:
            case 8: a = near(8); b = near(9); same("street(" + a + ", " + b + ")", x.street(a, b), m.street(a, b)); break;
            case 9: a = near(8); b = near(5); same("as(" + a + ", " + b + ")", x.as(a, b), m.as(a, b)); break;
            case 10: a = near(8); b = near(12); same("comes(" + a + ", " + b + ")", x.comes(a, b), m.comes(a, b)); break;
            case 11:
            case 12: a = near(8); same("walk(" + a + ")", x.walk(a), m.walk(a)); break;
            case 13: a = near(5); same("stand(" + a + ")", x.stand(a), m.stand(a)); break;
            case 14: same("dusk()", x.dusk(), m.dusk()); break;
            case 15:
                a = near(2); b = near(4); c = near(12);
                same("sing(" + a + ", " + b + ", " + c + ")", x.sing(a, b, c), m.sing(a, b, c));
                break;
            case 16: a = near(8); b = near(12); same("raise(" + a + ", " + b + ")", x.raise(a, b), m.raise(a, b)); break;
            case 17: a = near(2) == 0 ? near(2) : 10 + near(5); same("way(" + a + ")", x.way(a), m.way(a)); break;
            case 18: a = near(4); same("become(" + a + ")", x.become(a), m.become(a)); break;
            case 19: same("apart()", x.apart(), m.apart()); break;
            case 20: same("near()", x.near(), m.near()); break;
            case 21: seeSome(); break;
            case 22: if (random.nextInt(3) == 0) same("forget()", x.forget(), m.forget()); break;
            case 23:
                a = 1 + near(60); b = random.nextInt(8) == 0 ? near(9) : random.nextInt() >>> 1; c = near(3);
                same("wander(" + a + ", " + b + ", " + c + ")", x.wander(a, b, c), m.wander(a, b, c));
                break;
            case 24: same("image()", x.image(), m.image()); break;
            case 25: same("restore()", x.restore(), m.restore()); break;
            default:
                a = near(13);
                same("count(" + a + ")", x.count(a), m.count(a));
                if (random.nextInt(3) == 0) same("digest()", x.digest(), m.digest());
        }
    }

    /** Sights that are mostly true, so that some tonics stay possible. */
    private void seeSome() {
        int street = near(8);
        int note = near(12);
        int out = random.nextInt(4) == 0 ? near(12) : Math.max(0, m.comes(street, note));
        same("see(" + street + ", " + note + ", " + out + ")", x.see(street, note, out), m.see(street, note, out));
        same("street(" + street + ", 6)", x.street(street, 6), m.street(street, 6));
        same("street(" + street + ", 7)", x.street(street, 7), m.street(street, 7));
    }
}
