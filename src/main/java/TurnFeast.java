/** A village that feeds its guests house by house; ../shared/DOC.md says what each call answers. */
public final class TurnFeast {
    public static final int NONE = -1, BAD = -2, NOT = -3, FULL = -4;

    /** The most houses, guests, places of the row and SEEN that there may be. */
    private static final int MOST = 8;

    private static final int SALT = 1, SWEET = 2, PICKLE = 3;

    private static final int LEAST_INT = 0x80000000;
    private static final long LEAST_LONG = 0x8000000000000000L;

    private static final int NULL = 1, INDEX = 2, CAST = 3, STORE = 4, SIZE = 5;

    private final Text houseText;
    private final Text guestText;
    private final Row row;
    private final Guests guests;
    private final Feast feast;
    private final Sights sights;
    private final Sheets sheets;
    private final Chances chances;
    /** What-ifs are walked here, so that they leave the row and the feast as they are. */
    private final Row trial;
    private final Walk walk;
    private final Plan plan;
    private int finding;

    public TurnFeast() {
        houseText = new Text(true);
        guestText = new Text(false);
        row = new Row();
        guests = new Guests();
        feast = new Feast();
        sights = new Sights();
        sheets = new Sheets();
        chances = new Chances();
        trial = new Row();
        walk = new Walk();
        plan = new Plan();
        finding = 0;
    }

    // ---- houses, guests

    public int type(int text, int b) {
        if (!isBit(text) || b < 0 || b > 255) {
            return BAD;
        }
        Text typed = textOf(text);
        if (typed.length >= typed.bytes.length) {
            return FULL;
        }
        typed.bytes[typed.length] = b;
        typed.length++;
        refresh();
        return typed.length;
    }

    public int wipe(int text) {
        if (!isBit(text)) {
            return BAD;
        }
        Text wiped = textOf(text);
        int had = wiped.length;
        wiped.length = 0;
        refresh();
        return had;
    }

    public int undo(int text) {
        if (!isBit(text)) {
            return BAD;
        }
        Text undone = textOf(text);
        if (undone.length == 0) {
            return NOT;
        }
        undone.length--;
        refresh();
        return undone.length;
    }

    public int fault(int text) {
        return isBit(text) ? textOf(text).firstFault() : BAD;
    }

    public int house(int house, int what) {
        if (!isHouse(house) || what < 0 || what > 2) {
            return BAD;
        }
        if (what == 0) {
            return row.kind[house];
        }
        return what == 1 ? row.portion[house] : row.cost[house];
    }

    public int guest(int guest, int what) {
        if (!isGuest(guest) || what < 0 || what > 3) {
            return BAD;
        }
        switch (what) {
            case 0:
                return guests.hunger[guest];
            case 1:
                return guests.begins[guest];
            case 2:
                return guests.down[guest];
            default:
                return guests.turns[guest];
        }
    }

    public int set(int what, int v) {
        if (!isBit(what) || v < 0 || v > (what == 0 ? 1 : 255)) {
            return BAD;
        }
        int was;
        if (what == 0) {
            was = row.turned;
            row.turned = v;
        } else {
            was = row.empty;
            row.empty = v;
        }
        refresh();
        return was;
    }

    public int at(int place) {
        if (place < 0 || place >= MOST) {
            return BAD;
        }
        return place < row.count ? row.order[place] : NONE;
    }

    // ---- guests in turn

    public int gives(int guest, int house) {
        return isGuest(guest) && isHouse(house) ? feast.gaveTo(guest, house) : BAD;
    }

    public int fed(int guest, int what) {
        if (!isGuest(guest) || what < 0 || what > 3) {
            return BAD;
        }
        switch (what) {
            case 0:
                return feast.sleeps[guest];
            case 1:
                return feast.left[guest];
            case 2:
                return feast.refused[guest];
            default:
                return feast.doors[guest];
        }
    }

    public int all(int house, int what) {
        if (!isHouse(house) || !isBit(what)) {
            return BAD;
        }
        return what == 0 ? feast.total[house] : feast.tales[house];
    }

    public int price(int house) {
        if (!isHouse(house)) {
            return -10000 + BAD;
        }
        return row.cost[house] + 3 * feast.tales[house] - feast.total[house];
    }

    public int poor() {
        int poorest = NONE;
        int most = NONE;
        for (int house = 0; house < row.count; house++) {
            if (feast.total[house] > most) {
                most = feast.total[house];
                poorest = house;
            }
        }
        return poorest;
    }

    public int passed() {
        return ((1 << row.count) - 1) & ~feast.visited;
    }

    // ---- plans

    public int live(int house, int what) {
        if (!isHouse(house) || !isBit(what)) {
            return BAD;
        }
        planPlace(house);
        return what == 0 ? plan.choice : plan.gives;
    }

    public int cook(int house, int what) {
        if (!isHouse(house) || !isBit(what)) {
            return BAD;
        }
        planKind(house);
        return what == 0 ? plan.choice : plan.gives;
    }

    public int fast(int house, int guest, int what) {
        if (!isHouse(house) || !isGuest(guest) || !isBit(what)) {
            return BAD;
        }
        int bits = fewestEmpty(house, guest);
        return what == 0 ? howMany(bits) : bits;
    }

    public int soup(int house, int guest) {
        if (!isHouse(house) || !isGuest(guest)) {
            return BAD;
        }
        trial.takeFrom(row);
        for (int portion = 1; portion <= 9; portion++) {
            trial.portion[house] = portion;
            walk.go(trial, guests, guest);
            if (walk.sleeps == house) {
                return portion;
            }
        }
        return NONE;
    }

    // ---- seen, roads, seasons

    public int seen(int house, int much) {
        if (!sights.allows(house, much)) {
            return BAD;
        }
        if (sights.count >= MOST) {
            return FULL;
        }
        sights.add(house, much);
        return sights.count;
    }

    public int forget() {
        int had = sights.count;
        sights.count = 0;
        return had;
    }

    public int read(int s) {
        if (!isSheet(s)) {
            return BAD;
        }
        if (sheets.isLost(s)) {
            return found(NULL);
        }
        int taken = 0;
        for (int i = 0; i + 1 < sheets.size[s]; i += 2) {
            int house = sheets.item(s, i);
            int much = sheets.item(s, i + 1);
            if (!sights.allows(house, much) || sights.count >= MOST) {
                break;
            }
            sights.add(house, much);
            taken++;
        }
        return taken;
    }

    public int twice() {
        int bits = 0;
        for (int guest = 0; guest < guests.count; guest++) {
            if (twiceFits(guest)) {
                bits |= 1 << guest;
            }
        }
        return bits;
    }

    public int began(int guest) {
        if (!isGuest(guest)) {
            return BAD;
        }
        int bits = 0;
        for (int start = 0; start < 2 * MOST; start++) {
            walk.goFrom(row, guests, guest, start >> 1, start & 1);
            if (walkFits(guest)) {
                bits |= 1 << start;
            }
        }
        return bits;
    }

    public int ask() {
        int suspects = twice();
        int best = NONE;
        int least = 0;
        for (int house = 0; house < row.count; house++) {
            int alike = mostAlike(house, suspects);
            if (best == NONE || alike < least) {
                best = house;
                least = alike;
            }
        }
        return best;
    }

    public long road(int c, int house, int much, int what) {
        if (c < 0 || c > 16 || !isHouse(house) || much < 0 || much > 999 || !isBit(what)) {
            return LEAST_LONG - BAD;
        }
        chances.reckon(c, feast, house, guests.count, much);
        return what == 0 ? chances.above : chances.below;
    }

    public int season(int seed, int n, int house, int what) {
        if (n < 1 || n > 99 || !isHouse(house) || !isBit(what)) {
            return BAD;
        }
        if (guests.count == 0) {
            return 0;
        }
        int sum = 0;
        int lots = seed;
        for (int i = 0; i < n; i++) {
            lots = 1103515245 * lots + 12345;
            int guest = (lots >>> 16) % guests.count;
            if (what == 0) {
                sum += feast.gaveTo(guest, house);
            } else if (feast.sleeps[guest] == house) {
                sum++;
            }
        }
        return sum;
    }

    // ---- sheets

    public int sheet(int s, int form, int n) {
        if (!isSheet(s) || !isForm(form) || n > Sheets.ITEMS) {
            return BAD;
        }
        if (n < 0) {
            return found(SIZE);
        }
        sheets.start(s, form, n);
        return n;
    }

    public int lose(int s) {
        if (!isSheet(s)) {
            return BAD;
        }
        if (sheets.isLost(s)) {
            return found(NULL);
        }
        int had = sheets.size[s];
        sheets.size[s] = Sheets.LOST;
        return had;
    }

    public int lay(int s, int form, int i, int v) {
        if (!isSheet(s) || !isForm(form)) {
            return BAD;
        }
        int wrong = itemFinding(s, form, i);
        if (wrong != 0) {
            return found(wrong);
        }
        sheets.put(s, i, v);
        return 1;
    }

    public int get(int s, int form, int i) {
        if (!isSheet(s) || !isForm(form)) {
            return LEAST_INT;
        }
        int wrong = itemFinding(s, form, i);
        if (wrong != 0) {
            finding = wrong;
            return LEAST_INT;
        }
        return sheets.item(s, i);
    }

    public int copy(int s, int i, int t, int j, int n) {
        if (!isSheet(s) || !isSheet(t)) {
            return BAD;
        }
        if (sheets.isLost(s) || sheets.isLost(t)) {
            return found(NULL);
        }
        if (sheets.form[s] != sheets.form[t]) {
            return found(STORE);
        }
        if (!sheets.has(s, i, n) || !sheets.has(t, j, n)) {
            return found(INDEX);
        }
        sheets.move(s, i, t, j, n);
        return 1;
    }

    public int write(int what, int s) {
        if (!isBit(what) || !isSheet(s)) {
            return BAD;
        }
        if (sheets.isLost(s)) {
            return found(NULL);
        }
        int n = Math.min(sheets.size[s], row.count);
        for (int house = 0; house < n; house++) {
            sheets.put(s, house, what == 0 ? feast.total[house] : feast.tales[house]);
        }
        return n;
    }

    public int count(int what) {
        switch (what) {
            case 0:
                return row.count;
            case 1:
                return guests.count;
            case 2:
                return houseText.length;
            case 3:
                return guestText.length;
            case 4:
                return givenInAll();
            case 5:
                return sleepersInAll();
            case 6:
                return row.empty;
            case 7:
                return sights.count;
            case 8:
                return finding;
            default:
                return BAD;
        }
    }

    public long digest() {
        long h = 17;
        for (int what = 0; what <= 7; what++) {
            h = 31 * h + count(what);
        }
        h = 31 * h + fault(0);
        h = 31 * h + fault(1);
        for (int house = 0; house < row.count; house++) {
            h = mixHouse(h, house);
            h = mixPlans(h, house);
            h = mixRoads(h, house);
        }
        for (int guest = 0; guest < guests.count; guest++) {
            h = mixGuest(h, guest);
        }
        h = 31 * h + poor();
        h = 31 * h + passed();
        h = 31 * h + twice();
        return 31 * h + ask();
    }

    // ---- what the calls above share

    private static boolean isBit(int v) {
        return v == 0 || v == 1;
    }

    private static boolean isSheet(int s) {
        return s >= 0 && s < Sheets.SHEETS;
    }

    private static boolean isForm(int form) {
        return form >= 0 && form <= 2;
    }

    private boolean isHouse(int house) {
        return house >= 0 && house < row.count;
    }

    private boolean isGuest(int guest) {
        return guest >= 0 && guest < guests.count;
    }

    private Text textOf(int text) {
        return text == 0 ? houseText : guestText;
    }

    /** Every change of a text or of the row goes through here, so that the feast is never stale. */
    private void refresh() {
        row.parse(houseText);
        guests.parse(guestText);
        feast.hold(row, guests, walk);
    }

    private int found(int number) {
        finding = number;
        return -10 - number;
    }

    /** 0, or the number of the finding against item i of a sheet treated as of a form. */
    private int itemFinding(int s, int form, int i) {
        if (sheets.isLost(s)) {
            return NULL;
        }
        if (sheets.form[s] != form) {
            return CAST;
        }
        return i < 0 || i >= sheets.size[s] ? INDEX : 0;
    }

    private void planPlace(int house) {
        trial.takeFrom(row);
        plan.clear();
        for (int place = 0; place < row.count; place++) {
            trial.moveFrom(row, house, place);
            weighTrial(place, house);
        }
    }

    private void planKind(int house) {
        trial.takeFrom(row);
        plan.clear();
        for (int kind = 0; kind <= PICKLE; kind++) {
            trial.kind[house] = kind;
            weighTrial(kind, house);
        }
    }

    private void weighTrial(int option, int house) {
        int gave = 0;
        int told = 0;
        for (int guest = 0; guest < guests.count; guest++) {
            walk.go(trial, guests, guest);
            gave += walk.gave[house];
            if (walk.sleeps == house) {
                told++;
            }
        }
        plan.weigh(option, gave, told);
    }

    /** As bits; NONE. Bits of houses that there are not would only make more, so they are left out. */
    private int fewestEmpty(int house, int guest) {
        trial.takeFrom(row);
        int best = NONE;
        int fewest = MOST + 1;
        for (int bits = 0; bits < 1 << row.count; bits++) {
            int n = Integer.bitCount(bits);
            if (n >= fewest) {
                continue;
            }
            trial.empty = bits;
            walk.go(trial, guests, guest);
            if (walk.sleeps == house) {
                best = bits;
                fewest = n;
            }
        }
        return best;
    }

    private static int howMany(int bits) {
        return bits == NONE ? NONE : Integer.bitCount(bits);
    }

    private boolean twiceFits(int guest) {
        for (int i = 0; i < sights.count; i++) {
            int house = sights.house[i];
            if (!isHouse(house)
                    || feast.total[house] + feast.gaveTo(guest, house) != sights.much[i]) {
                return false;
            }
        }
        return true;
    }

    /** Whether all that was seen comes out so, if a guest goes as walked last in place of its own way. */
    private boolean walkFits(int guest) {
        for (int i = 0; i < sights.count; i++) {
            int house = sights.house[i];
            if (!isHouse(house)) {
                return false;
            }
            int others = feast.total[house] - feast.gaveTo(guest, house);
            if (others + walk.gave[house] != sights.much[i]) {
                return false;
            }
        }
        return true;
    }

    /** The greatest number of suspects to whom a house gives alike. */
    private int mostAlike(int house, int suspects) {
        int most = 0;
        for (int guest = 0; guest < guests.count; guest++) {
            if ((suspects >> guest & 1) != 0) {
                most = Math.max(most, alikeTo(guest, house, suspects));
            }
        }
        return most;
    }

    private int alikeTo(int guest, int house, int suspects) {
        int alike = 0;
        for (int other = 0; other < guests.count; other++) {
            if ((suspects >> other & 1) != 0
                    && feast.gaveTo(other, house) == feast.gaveTo(guest, house)) {
                alike++;
            }
        }
        return alike;
    }

    private int givenInAll() {
        int sum = 0;
        for (int house = 0; house < row.count; house++) {
            sum += feast.total[house];
        }
        return sum;
    }

    private int sleepersInAll() {
        int sum = 0;
        for (int guest = 0; guest < guests.count; guest++) {
            if (feast.sleeps[guest] != NONE) {
                sum++;
            }
        }
        return sum;
    }

    private long mixHouse(long start, int house) {
        long h = start;
        for (int what = 0; what <= 2; what++) {
            h = 31 * h + house(house, what);
        }
        h = 31 * h + at(house);
        h = 31 * h + all(house, 0);
        h = 31 * h + all(house, 1);
        return 31 * h + price(house);
    }

    /** Each plan is made once for its two numbers, as the plans are the dearest part of a digest. */
    private long mixPlans(long start, int house) {
        long h = start;
        planPlace(house);
        h = 31 * h + plan.choice;
        h = 31 * h + plan.gives;
        planKind(house);
        h = 31 * h + plan.choice;
        h = 31 * h + plan.gives;
        if (guests.count == 0) {
            h = 31 * h + BAD;
            h = 31 * h + BAD;
        } else {
            int bits = fewestEmpty(house, 0);
            h = 31 * h + howMany(bits);
            h = 31 * h + bits;
        }
        return 31 * h + soup(house, 0);
    }

    private long mixRoads(long start, int house) {
        long h = start;
        h = 31 * h + road(5, house, 9, 0);
        h = 31 * h + road(5, house, 9, 1);
        h = 31 * h + season(7, 30, house, 0);
        return 31 * h + season(7, 30, house, 1);
    }

    private long mixGuest(long start, int guest) {
        long h = start;
        for (int what = 0; what <= 3; what++) {
            h = 31 * h + guest(guest, what);
        }
        for (int what = 0; what <= 3; what++) {
            h = 31 * h + fed(guest, what);
        }
        h = 31 * h + began(guest);
        for (int house = 0; house < row.count; house++) {
            h = 31 * h + gives(guest, house);
        }
        return h;
    }

    /** Bytes of houses (3 each) or of guests (5 each), with one ; between two. */
    private static final class Text {
        final boolean ofHouses;
        /** Bytes from the first of one to the first of the next. */
        final int stride;
        /** Just long enough for eight, so that a ninth never begins. */
        final int[] bytes;
        int length;

        Text(boolean ofHouses) {
            this.ofHouses = ofHouses;
            stride = ofHouses ? 4 : 6;
            bytes = new int[ofHouses ? 31 : 47];
            length = 0;
        }

        int firstFault() {
            for (int i = 0; i < length; i++) {
                int place = i % stride;
                boolean fits = ofHouses ? fitsHouse(place, bytes[i]) : fitsGuest(place, bytes[i]);
                if (!fits) {
                    return i;
                }
            }
            boolean ended = length == 0 || length % stride == stride - 1;
            return ended ? NONE : length;
        }

        /** How many houses or guests the text tells: none with a fault. */
        int things() {
            return firstFault() == NONE ? (length + 1) / stride : 0;
        }

        int byteOf(int thing, int place) {
            int i = thing * stride + place;
            return i >= 0 && i < length ? bytes[i] : 0;
        }

        int figureOf(int thing, int place) {
            return byteOf(thing, place) - '0';
        }

        static boolean fitsHouse(int place, int b) {
            switch (place) {
                case 0:
                    return kindOf(b) != NONE;
                case 1:
                    return b >= '1' && b <= '9';
                case 2:
                    return b >= '0' && b <= '9';
                default:
                    return b == ';';
            }
        }

        static boolean fitsGuest(int place, int b) {
            switch (place) {
                case 0:
                case 1:
                case 4:
                    return b >= '0' && b <= '9';
                case 2:
                    return b >= '0' && b <= '7';
                case 3:
                    return b == 'u' || b == 'd';
                default:
                    return b == ';';
            }
        }

        static int kindOf(int b) {
            switch (b) {
                case 'p':
                    return 0;
                case 's':
                    return SALT;
                case 'w':
                    return SWEET;
                case 'v':
                    return PICKLE;
                default:
                    return NONE;
            }
        }
    }

    /** The houses, by their numbers, and in which order they stand. */
    private static final class Row {
        final int[] kind = new int[MOST];
        final int[] portion = new int[MOST];
        final int[] cost = new int[MOST];
        /** The house at each place. */
        final int[] order = new int[MOST];
        int count = 0;
        int turned = 0;
        /** Houses that are empty, as bits; also of houses that there are not (yet). */
        int empty = 0;

        void parse(Text text) {
            count = Math.min(text.things(), MOST);
            for (int house = 0; house < count; house++) {
                kind[house] = Text.kindOf(text.byteOf(house, 0));
                portion[house] = text.figureOf(house, 1);
                cost[house] = text.figureOf(house, 2);
                order[house] = turned == 1 ? count - 1 - house : house;
            }
        }

        void takeFrom(Row other) {
            count = other.count;
            turned = other.turned;
            empty = other.empty;
            for (int i = 0; i < MOST; i++) {
                kind[i] = other.kind[i];
                portion[i] = other.portion[i];
                cost[i] = other.cost[i];
                order[i] = other.order[i];
            }
        }

        /** The order of another row of as many houses, but with one house at a place. */
        void moveFrom(Row other, int house, int place) {
            int home = other.placeOf(house);
            for (int p = 0; p < count; p++) {
                if (p == place) {
                    order[p] = house;
                } else {
                    int among = p < place ? p : p - 1;
                    order[p] = other.order[among < home ? among : among + 1];
                }
            }
        }

        int placeOf(int house) {
            for (int place = 0; place < count; place++) {
                if (order[place] == house) {
                    return place;
                }
            }
            return 0;
        }

        boolean isEmpty(int house) {
            return (empty >> house & 1) != 0;
        }
    }

    /** The guests, by their numbers. */
    private static final class Guests {
        final int[] hunger = new int[MOST];
        final int[] begins = new int[MOST];
        final int[] down = new int[MOST];
        final int[] turns = new int[MOST];
        int count = 0;

        void parse(Text text) {
            count = Math.min(text.things(), MOST);
            for (int guest = 0; guest < count; guest++) {
                hunger[guest] = 10 * text.figureOf(guest, 0) + text.figureOf(guest, 1);
                begins[guest] = text.figureOf(guest, 2);
                down[guest] = text.byteOf(guest, 3) == 'd' ? 1 : 0;
                turns[guest] = text.figureOf(guest, 4);
            }
        }
    }

    /** One guest's way along a row, and what came of it. */
    private static final class Walk {
        final int[] gave = new int[MOST];
        int sleeps = NONE;
        int left = 0;
        int refused = 0;
        int doors = 0;
        /** The houses by which it went, as bits. */
        int visited = 0;
        boolean salted = false;

        void go(Row row, Guests guests, int guest) {
            goFrom(row, guests, guest, guests.begins[guest], guests.down[guest]);
        }

        void goFrom(Row row, Guests guests, int guest, int begins, int down) {
            clear(guests.hunger[guest]);
            int place = begins;
            for (int i = 0; i < MOST && left > 0 && place >= 0 && place < row.count; i++) {
                int house = row.order[place];
                doors++;
                visited |= 1 << house;
                if (!row.isEmpty(house)) {
                    offer(house, row.kind[house], row.portion[house], guests.turns[guest]);
                }
                place += down == 1 ? 1 : -1;
            }
        }

        void clear(int hunger) {
            for (int house = 0; house < MOST; house++) {
                gave[house] = 0;
            }
            sleeps = NONE;
            left = hunger;
            refused = 0;
            doors = 0;
            visited = 0;
            salted = false;
        }

        void offer(int house, int kind, int portion, int turns) {
            int offered = salted ? portion + 2 : portion;
            if (offered > left && refused < turns) {
                refused++;
                return;
            }
            int eaten = offered < left ? offered : left;
            gave[house] = eaten;
            left -= eaten;
            if (kind == SWEET) {
                left = left / 2;
            } else if (kind == PICKLE && left > 0) {
                left = left + 3 < 99 ? left + 3 : 99;
            }
            salted = kind == SALT;
            if (left == 0) {
                sleeps = house;
            }
        }
    }

    /** What comes of all guests, each once, with the row as it stands. */
    private static final class Feast {
        /** By guest and house. */
        final int[] given = new int[MOST * MOST];
        final int[] sleeps = new int[MOST];
        final int[] left = new int[MOST];
        final int[] refused = new int[MOST];
        final int[] doors = new int[MOST];
        final int[] total = new int[MOST];
        final int[] tales = new int[MOST];
        int visited = 0;

        void hold(Row row, Guests guests, Walk walk) {
            visited = 0;
            for (int house = 0; house < MOST; house++) {
                total[house] = 0;
                tales[house] = 0;
            }
            for (int guest = 0; guest < guests.count; guest++) {
                walk.go(row, guests, guest);
                enter(guest, walk);
            }
        }

        void enter(int guest, Walk walk) {
            sleeps[guest] = walk.sleeps;
            left[guest] = walk.left;
            refused[guest] = walk.refused;
            doors[guest] = walk.doors;
            visited |= walk.visited;
            for (int house = 0; house < MOST; house++) {
                given[guest * MOST + house] = walk.gave[house];
                total[house] += walk.gave[house];
                if (walk.sleeps == house) {
                    tales[house]++;
                }
            }
        }

        int gaveTo(int guest, int house) {
            return given[guest * MOST + house];
        }
    }

    /** The best of the options weighed: gives least, then has most tales, then came first. */
    private static final class Plan {
        int choice = NONE;
        int gives = 0;
        int tales = 0;

        void clear() {
            choice = NONE;
            gives = 0;
            tales = 0;
        }

        void weigh(int option, int gave, int told) {
            boolean better = gave < gives || gave == gives && told > tales;
            if (choice == NONE || better) {
                choice = option;
                gives = gave;
                tales = told;
            }
        }
    }

    /** What was SEEN: which house gave how much. */
    private static final class Sights {
        final int[] house = new int[MOST];
        final int[] much = new int[MOST];
        int count = 0;

        boolean allows(int h, int m) {
            return h >= 0 && h < MOST && m >= 0 && m <= 999;
        }

        void add(int h, int m) {
            if (count < MOST) {
                house[count] = h;
                much[count] = m;
                count++;
            }
        }
    }

    /** The chance that a house gives so much or more, as a fraction. */
    private static final class Chances {
        /** Eight guests, to each of whom a house gives its 9 and 2 for the salt at most. */
        static final int MOST_GIVEN = 88;
        /** By what the house gives, in parts of 16 to the power of the guests. */
        final long[] parts = new long[MOST_GIVEN + 1];
        long above = 0;
        long below = 1;

        void reckon(int c, Feast feast, int house, int guestCount, int much) {
            for (int sum = 0; sum <= MOST_GIVEN; sum++) {
                parts[sum] = 0;
            }
            parts[0] = 1;
            above = 0;
            below = 1;
            for (int guest = 0; guest < guestCount; guest++) {
                join(c, feast.gaveTo(guest, house));
                below *= 16;
            }
            for (int sum = much; sum <= MOST_GIVEN; sum++) {
                above += parts[sum];
            }
            reduce();
        }

        /** From the most down, so that each sum is still without this guest when it is added on. */
        void join(int c, int gave) {
            for (int sum = MOST_GIVEN; sum >= 0; sum--) {
                long comes = gave >= 0 && sum >= gave ? parts[sum - gave] * c : 0;
                parts[sum] = parts[sum] * (16 - c) + comes;
            }
        }

        /** What is below is a power of two, at most the 32nd. */
        void reduce() {
            for (int i = 0; i < 32 && (above & 1) == 0 && (below & 1) == 0; i++) {
                above /= 2;
                below /= 2;
            }
        }
    }

    /** All sheets in one row that is used again, so that a new sheet makes no object. */
    private static final class Sheets {
        static final int SHEETS = 4;
        static final int ITEMS = 60;
        static final int LOST = -1;
        final int[] items = new int[SHEETS * ITEMS];
        final int[] form = new int[SHEETS];
        final int[] size = {LOST, LOST, LOST, LOST};

        boolean isLost(int s) {
            return size[s] == LOST;
        }

        void start(int s, int f, int n) {
            form[s] = f;
            size[s] = n;
            for (int i = 0; i < ITEMS; i++) {
                items[s * ITEMS + i] = 0;
            }
        }

        int item(int s, int i) {
            return items[s * ITEMS + i];
        }

        /** The item keeps as many of the lowest bits as its form has. */
        void put(int s, int i, int v) {
            int kept = v;
            if (form[s] == 0) {
                kept = (byte) v;
            } else if (form[s] == 1) {
                kept = (short) v;
            }
            items[s * ITEMS + i] = kept;
        }

        boolean has(int s, int i, int n) {
            return i >= 0 && n >= 0 && i <= size[s] && n <= size[s] - i;
        }

        void move(int s, int i, int t, int j, int n) {
            System.arraycopy(items, s * ITEMS + i, items, t * ITEMS + j, n);
        }
    }
}
