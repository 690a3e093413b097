import java.util.List;

/**
 * Every call with every mixture of the numbers next to its bounds, in villages from none to full, each answer and the
 * state behind it against the model: more than one ground to refuse at once, and no call that throws.
 */
public final class EdgesTest {
    private static final int LEAST = Integer.MIN_VALUE;
    private static final int MOST = Integer.MAX_VALUE;
    private static final int[] TWO = {LEAST, -1, 0, 1, 2, MOST};
    private static final int[] FEW = {-1, 0, 2, 3, 4, 9, MOST};
    private static final int[] THINGS = {LEAST, -1, 0, 1, 3, 4, 5, 7, 8, MOST};
    private static final int[] BYTES = {LEAST, -1, 0, 'p', ';', 255, 256, MOST};
    private static final int[] MUCH = {LEAST, -1, 0, 1, 88, 89, 998, 999, 1000, MOST};
    private static final int[] SIXTEENTHS = {LEAST, -1, 0, 1, 15, 16, 17, MOST};
    private static final int[] TIMES = {LEAST, -1, 0, 1, 98, 99, 100, MOST};
    private static final int[] SEEDS = {LEAST, -1, 0, 1, MOST};
    private static final int[] SHEETS = {LEAST, -1, 0, 1, 2, 3, 4, MOST};
    private static final int[] FORMS = {LEAST, -1, 0, 1, 2, 3, MOST};
    private static final int[] ITEMS = {LEAST, -1, 0, 1, 59, 60, 61, MOST};
    private static final int[] VALUES = {LEAST, -129, -128, 127, 128, 32767, 32768, 65536, MOST};
    private static final int[] PARTS = {LEAST, -1, 0, 2, 3, 4, 60, MOST};
    private static final int[][][] ARGUMENTS = {
        {TWO, BYTES}, {TWO}, {TWO}, {TWO}, {THINGS, FEW}, {THINGS, FEW}, {TWO, BYTES}, {THINGS}, {THINGS, THINGS},
        {THINGS, FEW}, {THINGS, TWO}, {THINGS}, {}, {}, {THINGS, TWO}, {THINGS, TWO}, {THINGS, THINGS, TWO},
        {THINGS, THINGS}, {THINGS, MUCH}, {}, {SHEETS}, {}, {THINGS}, {}, {SIXTEENTHS, THINGS, MUCH, TWO},
        {SEEDS, TIMES, THINGS, TWO}, {SHEETS, FORMS, ITEMS}, {SHEETS}, {SHEETS, FORMS, ITEMS, VALUES},
        {SHEETS, FORMS, ITEMS}, {SHEETS, PARTS, SHEETS, PARTS, PARTS}, {TWO, SHEETS}, {FEW}, {}};
    private static final String[] NAMES = {"type", "wipe", "undo", "fault", "house", "guest", "set", "at", "gives", "fed",
        "all", "price", "poor", "passed", "live", "cook", "fast", "soup", "seen", "forget", "read", "twice", "began",
        "ask", "road", "season", "sheet", "lose", "lay", "get", "copy", "write", "count", "digest"};
    private static final int STATES = 5;
    private static final int CALLS = 400;
    /** The model's digest is slow. */
    private static final int DIGEST_EVERY = 16;

    private static int wrong = 0;
    private static long checked = 0;

    private TurnFeast x;
    private Model m;
    private int calls = CALLS;
    private int begun = 0;

    public static void main(String[] args) {
        for (int state = 0; state < STATES; state++) {
            for (int which = 0; which < NAMES.length; which++) {
                new EdgesTest().mixtures(state, which);
            }
        }
        System.out.println(checked + " answers, " + wrong + " not as due");
        if (wrong != 0) {
            System.exit(1);
        }
    }

    private void mixtures(int state, int which) {
        int[][] choices = ARGUMENTS[which];
        int all = 1;
        for (int[] c : choices) {
            all *= c.length;
        }
        for (int k = 0; k < all && wrong < 20; k++) {
            int[] a = new int[5];
            int rest = k;
            for (int i = 0; i < choices.length; i++) {
                a[i] = choices[i][rest % choices[i].length];
                rest /= choices[i].length;
            }
            if (calls >= CALLS) {
                begin(state);
            }
            calls += 2;
            check(state, which, a);
        }
    }

    private void check(int state, int which, int[] a) {
        String call = NAMES[which] + "(" + a[0] + ", " + a[1] + ", " + a[2] + ", " + a[3] + ", " + a[4] + ") in " + state;
        due(call, onClass(which, a), onModel(which, a));
        due("count(8) behind " + call, x.count(8), m.finding);
        if (calls >= CALLS && begun % DIGEST_EVERY == 1) {
            due("digest behind " + call, x.digest(), m.digest());
        }
    }

    private static void due(String call, long got, long want) {
        checked++;
        if (got != want) {
            wrong++;
            System.out.println(call + " answered " + got + ", due is " + want);
        }
    }

    /** 0 nothing, 1 a busy village, 2 a full one, 3 houses without guests, 4 guests without houses. */
    private void begin(int state) {
        begun++;
        x = new TurnFeast();
        m = new Model();
        String[][] texts = {{"", ""}, {"s31;p45;w60;v23", "200d0;052u1;993u9;000d0"},
            {Check.EIGHT_HOUSES, Check.EIGHT_GUESTS}, {"p10;s20;w30;v40", "000d"}, {"p10;", "050d0;990u1"}};
        for (int text = 0; text < 2; text++) {
            for (int i = 0; i < texts[state][text].length(); i++) {
                x.type(text, texts[state][text].charAt(i));
                m.type(text, texts[state][text].charAt(i));
            }
        }
        calls = texts[state][0].length() + texts[state][1].length();
        if (state == 0) {
            return;
        }
        act("sheet", 0, 0, 3, 0);
        act("sheet", 1, 1, 60, 0);
        act("sheet", 2, 2, state == 2 ? 60 : 0, 0);
        act("lay", 1, 1, 1, 999);
        for (int i = 0; i < (state == 2 ? 8 : 1); i++) {
            act("seen", 0, 8, 0, 0);
        }
        act("set", 0, 1, 0, 0);
        calls += 13;
    }

    private void act(String name, int a, int b, int c, int d) {
        int which = List.of(NAMES).indexOf(name);
        int[] args = {a, b, c, d, 0};
        due(name + " to begin with", onClass(which, args), onModel(which, args));
    }

    private long onClass(int which, int[] a) {
        switch (which) {
            case 0: return x.type(a[0], a[1]);
            case 1: return x.wipe(a[0]);
            case 2: return x.undo(a[0]);
            case 3: return x.fault(a[0]);
            case 4: return x.house(a[0], a[1]);
            case 5: return x.guest(a[0], a[1]);
            case 6: return x.set(a[0], a[1]);
            case 7: return x.at(a[0]);
            case 8: return x.gives(a[0], a[1]);
            case 9: return x.fed(a[0], a[1]);
            case 10: return x.all(a[0], a[1]);
            case 11: return x.price(a[0]);
            case 12: return x.poor();
            case 13: return x.passed();
            case 14: return x.live(a[0], a[1]);
            case 15: return x.cook(a[0], a[1]);
            case 16: return x.fast(a[0], a[1], a[2]);
            case 17: return x.soup(a[0], a[1]);
            case 18: return x.seen(a[0], a[1]);
            case 19: return x.forget();
            case 20: return x.read(a[0]);
            case 21: return x.twice();
            case 22: return x.began(a[0]);
            case 23: return x.ask();
            case 24: return x.road(a[0], a[1], a[2], a[3]);
            case 25: return x.season(a[0], a[1], a[2], a[3]);
            case 26: return x.sheet(a[0], a[1], a[2]);
            case 27: return x.lose(a[0]);
            case 28: return x.lay(a[0], a[1], a[2], a[3]);
            case 29: return x.get(a[0], a[1], a[2]);
            case 30: return x.copy(a[0], a[1], a[2], a[3], a[4]);
            case 31: return x.write(a[0], a[1]);
            case 32: return x.count(a[0]);
            default: return x.digest();
        }
    }

    private long onModel(int which, int[] a) {
        switch (which) {
            case 0: return m.type(a[0], a[1]);
            case 1: return m.wipe(a[0]);
            case 2: return m.undo(a[0]);
            case 3: return m.fault(a[0]);
            case 4: return m.house(a[0], a[1]);
            case 5: return m.guest(a[0], a[1]);
            case 6: return m.set(a[0], a[1]);
            case 7: return m.at(a[0]);
            case 8: return m.gives(a[0], a[1]);
            case 9: return m.fed(a[0], a[1]);
            case 10: return m.all(a[0], a[1]);
            case 11: return m.price(a[0]);
            case 12: return m.poor();
            case 13: return m.passed();
            case 14: return m.live(a[0], a[1]);
            case 15: return m.cook(a[0], a[1]);
            case 16: return m.fast(a[0], a[1], a[2]);
            case 17: return m.soup(a[0], a[1]);
            case 18: return m.seen(a[0], a[1]);
            case 19: return m.forget();
            case 20: return m.read(a[0]);
            case 21: return m.twice();
            case 22: return m.began(a[0]);
            case 23: return m.ask();
            case 24: return m.road(a[0], a[1], a[2], a[3]);
            case 25: return m.season(a[0], a[1], a[2], a[3]);
            case 26: return m.sheet(a[0], a[1], a[2]);
            case 27: return m.lose(a[0]);
            case 28: return m.lay(a[0], a[1], a[2], a[3]);
            case 29: return m.get(a[0], a[1], a[2]);
            case 30: return m.copy(a[0], a[1], a[2], a[3], a[4]);
            case 31: return m.write(a[0], a[1]);
            case 32: return m.count(a[0]);
            default: return m.digest();
        }
    }
}
