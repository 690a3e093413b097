import java.util.Random;

/** Random runs of calls, each answer against a slow model that was written from the document alone. */
public final class ModelTest {
    private static final int RUNS = 250;
    /** With the last retype and the digest still below the 512 calls that the document promises. */
    private static final int CALLS = 420;

    private final Random random;
    private final TurnFeast x = new TurnFeast();
    private final Model m = new Model();
    private final int run;
    private static int wrong = 0;

    private ModelTest(int run) {
        this.run = run;
        random = new Random(1000 + run);
    }

    public static void main(String[] args) {
        for (int run = 0; run < RUNS && wrong < 20; run++) {
            new ModelTest(run).go();
        }
        System.out.println(RUNS + " runs, " + wrong + " answers not as due");
        if (wrong != 0) {
            System.exit(1);
        }
    }

    private void due(String call, long got, long want) {
        if (got != want) {
            wrong++;
            System.out.println("run " + run + ": " + call + " answered " + got + ", due is " + want + " with "
                + m.text[0] + " " + m.text[1] + " turned " + m.turned + " empty " + m.empty + " seen " + m.seen);
        }
    }

    private void go() {
        int calls = 0;
        while (calls < CALLS && wrong < 20) {
            calls += random.nextInt(12) == 0 ? retype() : step();
        }
        due("digest()", x.digest(), m.digest());
    }

    private int retype() {
        int text = random.nextInt(2);
        due("wipe", x.wipe(text), m.wipe(text));
        int n = random.nextInt(8) == 0 ? 0 : 1 + random.nextInt(8);
        int most = new int[] {10, 30, 100}[random.nextInt(3)];
        StringBuilder told = new StringBuilder();
        for (int i = 0; i < n; i++) {
            told.append(i == 0 ? "" : ";");
            if (text == 0) {
                told.append("pswv".charAt(random.nextInt(4))).append(1 + random.nextInt(9)).append(random.nextInt(10));
            } else {
                int hunger = random.nextInt(most);
                told.append(hunger / 10).append(hunger % 10).append(random.nextInt(random.nextBoolean() ? 3 : 8));
                told.append(random.nextBoolean() ? 'u' : 'd').append(random.nextBoolean() ? 0 : random.nextInt(10));
            }
        }
        if (random.nextInt(10) == 0 && told.length() > 0) {
            told.setCharAt(random.nextInt(told.length()), (char) random.nextInt(256));
        }
        for (int i = 0; i < told.length(); i++) {
            due("type", x.type(text, told.charAt(i)), m.type(text, told.charAt(i)));
        }
        due("fault", x.fault(text), m.fault(text));
        return told.length() + 2;
    }

    /** Mostly within 0 .. n - 1, now and then beyond. */
    private int upTo(int n) {
        switch (random.nextInt(24)) {
            case 0:
                return -1;
            case 1:
                return n;
            case 2:
                return random.nextInt();
            default:
                return n <= 0 ? 0 : random.nextInt(n);
        }
    }

    private int anyHouse() {
        return upTo(Math.max(1, m.houses().size()));
    }

    private int anyGuest() {
        return upTo(Math.max(1, m.guests().size()));
    }

    private int step() {
        int which = random.nextInt(34);
        if (which < 12) {
            stepVillage(which);
        } else if (which < 24) {
            stepPlans(which);
        } else {
            stepSheets(which);
        }
        return 1;
    }

    private void stepVillage(int which) {
        int a = anyHouse();
        int g = anyGuest();
        int w = upTo(4);
        int two = upTo(2);
        switch (which) {
            case 0: {
                int b = random.nextInt(4) == 0 ? upTo(256) : "pswv;0123456789ud".charAt(random.nextInt(17));
                due("type(" + two + ", " + b + ")", x.type(two, b), m.type(two, b));
                break;
            }
            case 1:
                due("undo(" + two + ")", x.undo(two), m.undo(two));
                break;
            case 2:
                due("fault(" + two + ")", x.fault(two), m.fault(two));
                break;
            case 3:
                due("house(" + a + ", " + w + ")", x.house(a, w), m.house(a, w));
                break;
            case 4:
                due("guest(" + g + ", " + w + ")", x.guest(g, w), m.guest(g, w));
                break;
            case 5: {
                int v = two == 0 ? upTo(2) : upTo(256);
                due("set(" + two + ", " + v + ")", x.set(two, v), m.set(two, v));
                break;
            }
            case 6: {
                int place = upTo(8);
                due("at(" + place + ")", x.at(place), m.at(place));
                break;
            }
            case 7:
                due("gives(" + g + ", " + a + ")", x.gives(g, a), m.gives(g, a));
                break;
            case 8:
                due("fed(" + g + ", " + w + ")", x.fed(g, w), m.fed(g, w));
                break;
            case 9:
                due("all(" + a + ", " + two + ")", x.all(a, two), m.all(a, two));
                break;
            case 10:
                due("price(" + a + ")", x.price(a), m.price(a));
                break;
            default:
                due("poor()", x.poor(), m.poor());
                due("passed()", x.passed(), m.passed());
                break;
        }
    }

    private void stepPlans(int which) {
        int a = anyHouse();
        int g = anyGuest();
        int two = upTo(2);
        switch (which) {
            case 12:
                due("live(" + a + ", " + two + ")", x.live(a, two), m.live(a, two));
                break;
            case 13:
                due("cook(" + a + ", " + two + ")", x.cook(a, two), m.cook(a, two));
                break;
            case 14:
                due("fast(" + a + ", " + g + ", " + two + ")", x.fast(a, g, two), m.fast(a, g, two));
                break;
            case 15:
                due("soup(" + a + ", " + g + ")", x.soup(a, g), m.soup(a, g));
                break;
            case 16: {
                int h = upTo(8);
                int much = likelySight(h);
                due("seen(" + h + ", " + much + ")", x.seen(h, much), m.seen(h, much));
                break;
            }
            case 17:
                due("forget()", x.forget(), m.forget());
                break;
            case 18:
                due("twice()", x.twice(), m.twice());
                break;
            case 19:
                due("began(" + g + ")", x.began(g), m.began(g));
                break;
            case 20:
                due("ask()", x.ask(), m.ask());
                break;
            case 21:
            case 22: {
                int c = upTo(17);
                int much = random.nextBoolean() ? upTo(90) : upTo(1000);
                due("road(" + c + ", " + a + ", " + much + ", " + two + ")", x.road(c, a, much, two),
                    m.road(c, a, much, two));
                break;
            }
            default: {
                int seed = random.nextInt();
                int n = upTo(100);
                due("season(" + seed + ", " + n + ", " + a + ", " + two + ")", x.season(seed, n, a, two),
                    m.season(seed, n, a, two));
                break;
            }
        }
    }

    /** What a house gives if some guest comes twice or not at all, so that something fits. */
    private int likelySight(int h) {
        if (h < 0 || h >= m.houses().size() || m.guests().isEmpty() || random.nextInt(6) == 0) {
            return upTo(1000);
        }
        int extra = m.gives(random.nextInt(m.guests().size()), h);
        return Math.max(0, m.all(h, 0) + extra * (random.nextInt(3) - 1));
    }

    private void stepSheets(int which) {
        int s = upTo(4);
        int t = upTo(4);
        int form = random.nextInt(3) == 0 || s < 0 || s > 3 || m.form[s] < 0 ? upTo(3) : m.form[s];
        int i = upTo(random.nextBoolean() ? 4 : 60);
        int j = upTo(random.nextBoolean() ? 4 : 60);
        int n = upTo(random.nextBoolean() ? 10 : 61);
        int v = random.nextBoolean() ? random.nextInt(20) : random.nextInt();
        switch (which) {
            case 24:
                due("sheet(" + s + ", " + form + ", " + n + ")", x.sheet(s, form, n), m.sheet(s, form, n));
                break;
            case 25:
                due("lose(" + s + ")", x.lose(s), m.lose(s));
                break;
            case 26:
            case 27:
                due("lay(" + s + ", " + form + ", " + i + ", " + v + ")", x.lay(s, form, i, v), m.lay(s, form, i, v));
                break;
            case 28:
            case 29:
                due("get(" + s + ", " + form + ", " + i + ")", x.get(s, form, i), m.get(s, form, i));
                break;
            case 30:
                due("copy(" + s + ", " + i + ", " + t + ", " + j + ", " + n + ")", x.copy(s, i, t, j, n),
                    m.copy(s, i, t, j, n));
                break;
            case 31:
                due("write(" + (n & 1) + ", " + s + ")", x.write(n & 1, s), m.write(n & 1, s));
                break;
            case 32:
                due("read(" + s + ")", x.read(s), m.read(s));
                break;
            default: {
                int what = upTo(9);
                due("count(" + what + ")", x.count(what), m.count(what));
                break;
            }
        }
    }
}
