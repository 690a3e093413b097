import java.math.BigInteger;

/** The bounds of what was seen, of roads and of seasons, promises 20 to 27, sentence by sentence. */
public final class ChanceBoundsTest {
    private static final String ONES = "p10;p10;p10;p10;p10;p10;p10;p10";
    private static final String EIGHT_ALIKE = "990d0;990d0;990d0;990d0;990d0;990d0;990d0;990d0";

    public static void main(String[] args) {
        seen();
        forget();
        read();
        readEachMayBe();
        readFull();
        twice();
        never();
        began();
        ask();
        roadBounds();
        fractions();
        roadCalls();
        lots();
        season();
        seasonCalls();
        Check.end();
    }

    private static TurnFeast eightSeen() {
        TurnFeast x = Check.busy();
        for (int i = x.count(7); i < 8; i++) {
            x.seen(i, 100 + i);
        }
        return x;
    }

    private static void seen() {
        Check.told("Part 4", "SEEN, 8 at most: a house (0 to 7) gave so much to all (0 to 999)");
        TurnFeast x = new TurnFeast();
        Check.due("the least house, the least much", x.seen(0, 0), 1);
        Check.due("the greatest house, the most", x.seen(7, 999), 2);
        Check.due("the same again", x.seen(7, 999), 3);
        for (int i = 4; i <= 8; i++) {
            Check.due("one more", x.seen(i - 1, i), i);
        }
        Check.due("the ninth", x.seen(0, 0), Check.FULL);
        Check.due("count(7)", x.count(7), 8);
        Check.told("Promise 20", "BAD");
        Check.refused("seen(8, 0)", y -> y.seen(8, 0), Check.BAD);
        Check.refused("seen(0, 1000)", y -> y.seen(0, 1000), Check.BAD);
        Check.refused("seen(8, 1000)", y -> y.seen(8, 1000), Check.BAD);
        for (int far : Check.FAR) {
            Check.refused("seen(" + far + ", 0)", y -> y.seen(far, 0), Check.BAD);
            Check.refused("seen(0, " + far + ")", y -> y.seen(0, far), Check.BAD);
        }
        Check.told("Promise 20", "FULL");
        Check.refused("seen(0, 0) of eight", ChanceBoundsTest::eightSeen, y -> y.seen(0, 0), Check.FULL);
        Check.refused("seen(7, 999) of eight", ChanceBoundsTest::eightSeen, y -> y.seen(7, 999), Check.FULL);
        Check.told("Refusals", "the first that fits, in the order told at each act: BAD, .. FULL");
        Check.refused("seen(8, 0) of eight", ChanceBoundsTest::eightSeen, y -> y.seen(8, 0), Check.BAD);
        Check.refused("seen(0, 1000) of eight", ChanceBoundsTest::eightSeen, y -> y.seen(0, 1000), Check.BAD);
        Check.refused("seen(0, -1) of eight", ChanceBoundsTest::eightSeen, y -> y.seen(0, -1), Check.BAD);
    }

    private static void forget() {
        Check.told("Promise 21", "All SEEN are forgotten: how many.");
        Check.due("none", new TurnFeast().forget(), 0);
        TurnFeast x = eightSeen();
        Check.due("eight", x.forget(), 8);
        Check.due("none any more", x.forget(), 0);
        Check.due("count(7)", x.count(7), 0);
        Check.due("there is room again", x.seen(0, 0), 1);
        TurnFeast y = Check.village("p10", "010d0");
        y.seen(0, 5);
        Check.due("twice() of what was SEEN", y.twice(), 0);
        y.forget();
        Check.due("twice() of what was forgotten", y.twice(), 1);
        y.seen(0, 2);
        Check.due("twice() of what was SEEN then", y.twice(), 1);
    }

    /** A SHEET 0 of a FORM with these items. */
    private static TurnFeast sheetOf(int form, int... items) {
        TurnFeast x = Check.village("p10;p10;p10;p10;p10;p10;p10;p10", "990d0");
        x.sheet(0, form, items.length);
        for (int i = 0; i < items.length; i++) {
            x.lay(0, form, i, items[i]);
        }
        return x;
    }

    private static void readDue(String told, int form, int want, int... items) {
        TurnFeast x = sheetOf(form, items);
        Check.due("read(0) of " + told, x.read(0), want);
        Check.due("count(7) behind read(0) of " + told, x.count(7), want);
        Check.due("the SHEET stays, " + told, x.lose(0), items.length);
    }

    private static void read() {
        Check.told("Promise 22", "SEEN from a SHEET: its items, two for each, as many as are whole");
        for (int form = 0; form < 3; form++) {
            readDue("no items", form, 0);
            readDue("one item", form, 0, 1);
            readDue("two items", form, 1, 1, 2);
            readDue("three items", form, 1, 1, 2, 3);
            readDue("four items", form, 2, 1, 2, 3, 4);
        }
        TurnFeast x = sheetOf(2, 7, 2, 0, 2);
        x.read(0);
        Check.due("the first item is the house, the second how much", x.twice(), 1);
        TurnFeast y = sheetOf(2, 2, 7, 2, 0);
        y.read(0);
        Check.due("and not the other way", y.twice(), 0);
        Check.told("Promise 22", "BAD; NULL.");
        Check.refused("read(4)", z -> z.read(4), Check.BAD);
        Check.refused("read(3), LOST", z -> z.read(3), Check.NULL);
        Check.refused("read(0) of a new object", TurnFeast::new, z -> z.read(0), Check.NULL);
        Check.refused("read(3), LOST, with eight SEEN", ChanceBoundsTest::eightSeen, z -> z.read(3), Check.NULL);
        for (int far : Check.FAR) {
            Check.refused("read(" + far + ")", z -> z.read(far), Check.BAD);
        }
    }

    private static void readEachMayBe() {
        Check.told("Promise 22", "as long as each may be: how many.");
        for (int form = 1; form < 3; form++) {
            readDue("the greatest house and the most", form, 2, 7, 999, 0, 0);
            readDue("too much", form, 0, 0, 1000, 1, 1);
            readDue("too much, the second", form, 1, 1, 1, 0, 1000, 1, 1);
            readDue("less than 0", form, 0, 0, -1, 1, 1);
        }
        for (int form = 0; form < 3; form++) {
            readDue("no such house", form, 0, 8, 0, 1, 1);
            readDue("no such house, below 0", form, 0, -1, 0, 1, 1);
            readDue("the last may not be", form, 2, 1, 1, 2, 2, 8, 3);
        }
        Check.told("Promise 22", "items are what their FORM keeps");
        readDue("a byte of 127", 0, 1, 0, 127);
        readDue("a byte of 128 is below 0", 0, 0, 0, 128);
        readDue("a byte of 256 is 0", 0, 1, 256, 256);
        readDue("a short of 65536 and 999 is 999", 1, 1, 65536, 65536 + 999);
        readDue("a short of 32768 is below 0", 1, 0, 0, 32768);
        readDue("an int of 65536 is too much", 2, 0, 0, 65536);
        readDue("the least int", 2, 0, Check.LEAST_INT, 0);
    }

    private static void readFull() {
        Check.told("Part 4", "SEEN, 8 at most");
        readDue("eight", 2, 8, 0, 0, 1, 1, 2, 2, 3, 3, 4, 4, 5, 5, 6, 6, 7, 7);
        readDue("nine", 2, 8, 0, 0, 1, 1, 2, 2, 3, 3, 4, 4, 5, 5, 6, 6, 7, 7, 0, 0);
        readDue("eight and a half", 2, 8, 0, 0, 1, 1, 2, 2, 3, 3, 4, 4, 5, 5, 6, 6, 7, 7, 0);
        TurnFeast most = new TurnFeast();
        most.sheet(3, 0, 60);
        Check.due("sixty items", most.read(3), 8);
        Check.due("sixty items, again", most.read(3), 0);
        Check.due("count(7)", most.count(7), 8);
        Check.told("Promise 22", "behind what was SEEN already (nothing says that it is in place of it)");
        TurnFeast x = sheetOf(2, 0, 2, 1, 2, 2, 2, 3, 2);
        x.seen(7, 2);
        x.seen(6, 2);
        Check.due("read(0) behind two", x.read(0), 4);
        Check.due("count(7) behind two", x.count(7), 6);
        Check.due("read(0) behind six", x.read(0), 2);
        Check.due("count(7) behind six", x.count(7), 8);
        Check.due("read(0) behind eight", x.read(0), 0);
        Check.due("all of them count", x.twice(), 1);
    }

    private static void twice() {
        Check.told("Part 4", "TWICE: GUESTS each of which, had it come twice, makes all that was SEEN come out so, as bits.");
        Check.due("no GUESTS", Check.village("p10", "").twice(), 0);
        Check.due("nothing SEEN, one GUEST", Check.village("p10", "010d0").twice(), 1);
        Check.due("nothing SEEN, eight", Check.village("p10", EIGHT_ALIKE).twice(), 255);
        Check.due("nothing SEEN, no houses", Check.village("", EIGHT_ALIKE).twice(), 255);
        String three = "030d0;020d0;000d0";
        int[] due = {0, 0, 0, 0, 0, 4, 0, 2, 1, 0};
        for (int much = 0; much < due.length; much++) {
            TurnFeast x = Check.village("p30", three);
            x.seen(0, much);
            Check.due("twice() of " + much, x.twice(), due[much]);
            x.seen(0, much);
            Check.due("twice() of " + much + ", SEEN again", x.twice(), due[much]);
            x.seen(0, much + 1);
            Check.due("twice() of both " + much + " and one more", x.twice(), 0);
        }
        TurnFeast eighth = Check.village(ONES, "010d0;010d0;010d0;010d0;010d0;010d0;010d0;017d0");
        eighth.seen(7, 2);
        Check.due("the eighth alone", eighth.twice(), 128);
        TurnFeast all = Check.village("s90;p90", EIGHT_ALIKE);
        all.seen(1, 99);
        Check.due("the most that comes out", all.twice(), 255);
        all.seen(0, 81);
        Check.due("by both houses", all.twice(), 255);
        all.seen(0, 82);
        Check.due("one does not come out", all.twice(), 0);
        TurnFeast nothing = Check.village("p10", "000d0;011d0");
        nothing.seen(0, 0);
        Check.due("those who eat nothing", nothing.twice(), 3);
        TurnFeast empty = Check.village("p10", "010d0", 0, 1);
        empty.seen(0, 0);
        Check.due("an EMPTY house", empty.twice(), 1);
        Check.told("Promise 23", "TWICE, as bits.");
        Check.changesNothing("twice()", Check::busy, TurnFeast::twice);
    }

    private static void never() {
        Check.told("Part 4", "one that there is not: never");
        TurnFeast x = Check.village("p10", "000d0");
        x.seen(0, 0);
        Check.due("twice() by a house that there is", x.twice(), 1);
        Check.due("began(0) by a house that there is", x.began(0), 65535);
        x.seen(1, 0);
        Check.due("twice() by the first that there is not", x.twice(), 0);
        Check.due("began(0) by the first that there is not", x.began(0), 0);
        Check.typeAll(x, 0, ";p10");
        Check.due("twice() when it is there", x.twice(), 1);
        Check.due("began(0) when it is there", x.began(0), 65535);
        x.seen(7, 0);
        Check.due("twice() by the last that there is not", x.twice(), 0);
        x.wipe(0);
        Check.due("twice() without houses", x.twice(), 0);
        Check.due("began(0) without houses", x.began(0), 0);
        TurnFeast eight = Check.village(ONES, "000d0");
        eight.seen(7, 0);
        Check.due("twice() by the eighth", eight.twice(), 1);
        eight.undo(0);
        Check.due("twice() by a text with a FAULT", eight.twice(), 0);
        TurnFeast stale = Check.village("p10;p10", "000d0");
        stale.seen(1, 0);
        stale.wipe(0);
        Check.typeAll(stale, 0, "p10");
        Check.due("twice() by one that was there", stale.twice(), 0);
        Check.due("began(0) by one that was there", stale.began(0), 0);
    }

    private static void beganDue(String told, String houses, String guests, int h, int much, int guest, int want) {
        TurnFeast x = Check.village(houses, guests);
        x.seen(h, much);
        Check.due("began(" + guest + "), " + told, x.began(guest), want);
    }

    private static void began() {
        Check.told("Part 4", "BEGAN of a GUEST: at which place, which way (2 times the place, 1 more: down; places 0 to 7), "
            + "in place of its own, likewise, as bits.");
        Check.due("nothing SEEN", Check.village(ONES, "010d0").began(0), 65535);
        Check.due("nothing SEEN, no houses", Check.village("", "010d0").began(0), 65535);
        beganDue("place 0", ONES, "010d0", 0, 1, 0, 3);
        beganDue("place 7", ONES, "010d0", 7, 1, 0, 49152);
        beganDue("not at place 7", ONES, "010d0", 7, 0, 0, 16383);
        beganDue("up to place 0", ONES, "990d0", 0, 1, 0, 21847);
        beganDue("down to place 7", ONES, "990d0", 7, 1, 0, 60074);
        beganDue("places where there is none", "p10", "010d0", 0, 0, 0, 65532);
        beganDue("too much", ONES, "990d0", 0, 2, 0, 0);
        beganDue("with the others, who stay", ONES, "990d0;990d0", 0, 2, 1, 21847);
        beganDue("without its own", ONES, "990d0;990d0", 0, 1, 0, 43688);
        beganDue("without HUNGER", ONES, "000d0", 0, 0, 0, 65535);
        beganDue("GUEST 7", ONES, "010d0;010d0;010d0;010d0;010d0;010d0;010d0;010d0", 7, 1, 7, 49152);
        TurnFeast turned = Check.village(ONES, "010d0", 1, 0);
        turned.seen(0, 1);
        Check.due("TURNED, a place of the ROW", turned.began(0), 49152);
        TurnFeast empty = Check.village(ONES, "010d0", 0, 1);
        empty.seen(1, 1);
        Check.due("by an EMPTY one", empty.began(0), 14);
        TurnFeast turns = Check.village("p20;p10", "010d1");
        turns.seen(1, 1);
        Check.due("it turns down as it may", turns.began(0), 14);
        Check.told("Promise 24", "BEGAN, as bits. BAD.");
        Check.changesNothing("began(0)", Check::busy, y -> y.began(0));
        Check.refused("began(5) of five", y -> y.began(5), Check.BAD);
        Check.refused("began(8) of eight", Check::full, y -> y.began(8), Check.BAD);
        Check.refused("began(0) of none", TurnFeast::new, y -> y.began(0), Check.BAD);
        for (int far : Check.FAR) {
            Check.refused("began(" + far + ")", y -> y.began(far), Check.BAD);
        }
    }

    private static void ask() {
        Check.told("Part 4", "ASK: the house of which the greatest number of those GUESTS that may have come TWICE by which "
            + "it GIVES alike is least");
        TurnFeast x = Check.village("p10;p20;p30", "010d0;030d0;060d0");
        Check.due("three, two, two", x.ask(), 1);
        x.seen(1, 6);
        Check.due("two, two, one", x.ask(), 2);
        TurnFeast last = Check.village("p10;p10;p10;p10;p10;p10;p10;p20", "990d0;980d0;080d0;090d0");
        Check.due("three alike at the eighth, four elsewhere", last.ask(), 7);
        TurnFeast two = Check.village("p50;p50", "040d0;040d0;041d0;031d0");
        Check.due("two twos, or two and one and one", two.ask(), 0);
        two.seen(1, 7);
        Check.due("those alone who may have come TWICE", two.twice(), 3);
        Check.due("and they give alike", two.ask(), 0);
        TurnFeast apart = Check.village("p30;p90", "040d0;020d0;050d0");
        apart.seen(0, 11);
        Check.due("the first and the third", apart.twice(), 5);
        Check.due("two alike, or one and one", apart.ask(), 1);
        Check.told("Part 4", "of like ones the least");
        Check.due("one GUEST", Check.village(ONES, "990d0").ask(), 0);
        Check.due("eight alike", Check.village(ONES, EIGHT_ALIKE).ask(), 0);
        Check.due("least by its number, TURNED", Check.village(ONES, EIGHT_ALIKE, 1, 0).ask(), 0);
        TurnFeast none = Check.village(ONES, EIGHT_ALIKE);
        none.seen(0, 999);
        Check.due("none may have come TWICE", none.ask(), 0);
        Check.due("no GUESTS", Check.village(ONES, "").ask(), 0);
        Check.told("Part 4", "NONE: there are none");
        Check.due("no houses", new TurnFeast().ask(), Check.NONE);
        Check.due("no houses, but GUESTS", Check.village("", EIGHT_ALIKE).ask(), Check.NONE);
        Check.due("houses with a FAULT", Check.village("p10;", EIGHT_ALIKE).ask(), Check.NONE);
        Check.told("Promise 25", "ASK; NONE.");
        Check.changesNothing("ask()", Check::busy, TurnFeast::ask);
    }

    private static void roadDue(String told, TurnFeast x, int c, int house, int much, long above, long below) {
        String call = told + ": road(" + c + ", " + house + ", " + much;
        Check.due(call + ", 0)", x.road(c, house, much, 0), above);
        Check.due(call + ", 1)", x.road(c, house, much, 1), below);
    }

    private static void roadBounds() {
        Check.told("Part 4", "ROAD: each GUEST comes by c sixteenths (0 to 16), by itself");
        TurnFeast x = Check.village("p10", "010d0;010d0");
        roadDue("never", x, 0, 0, 0, 1, 1);
        roadDue("never", x, 0, 0, 1, 0, 1);
        roadDue("hardly", x, 1, 0, 1, 31, 256);
        roadDue("hardly both", x, 1, 0, 2, 1, 256);
        roadDue("mostly", x, 15, 0, 1, 255, 256);
        roadDue("mostly both", x, 15, 0, 2, 225, 256);
        roadDue("always", x, 16, 0, 1, 1, 1);
        roadDue("always both", x, 16, 0, 2, 1, 1);
        roadDue("always, but not a third", x, 16, 0, 3, 0, 1);
        Check.told("Part 4", "the chance that a house GIVES so much (0 to 999), or more");
        for (int c = 0; c <= 16; c++) {
            roadDue("0 or more is sure", x, c, 0, 0, 1, 1);
            roadDue("999 is never", x, c, 0, 999, 0, 1);
        }
        TurnFeast most = Check.village("s90;p90", EIGHT_ALIKE);
        roadDue("all that it can give", most, 15, 1, 88, 2562890625L, 4294967296L);
        roadDue("one more", most, 15, 1, 89, 0, 1);
        roadDue("between seven and eight", most, 15, 1, 78, 2562890625L, 4294967296L);
        roadDue("just seven", most, 15, 1, 77, 3929765625L, 4294967296L);
        roadDue("any at all", most, 15, 1, 1, 4294967295L, 4294967296L);
        roadDue("no more than one gives", most, 15, 1, 11, 4294967295L, 4294967296L);
        roadDue("more than one gives", most, 15, 1, 12, 4294967175L, 4294967296L);
        roadDue("always all", most, 16, 1, 88, 1, 1);
    }

    private static void fractions() {
        Check.told("Terms", "FRACTIONS are told in lowest terms, above and below (0 by 1).");
        TurnFeast none = Check.village("p10", "");
        roadDue("no GUESTS", none, 5, 0, 0, 1, 1);
        roadDue("no GUESTS", none, 5, 0, 1, 0, 1);
        TurnFeast one = Check.village("p10", "010d0");
        int[][] lowest = {{0, 1}, {1, 16}, {1, 8}, {3, 16}, {1, 4}, {5, 16}, {3, 8}, {7, 16}, {1, 2}, {9, 16}, {5, 8},
            {11, 16}, {3, 4}, {13, 16}, {7, 8}, {15, 16}, {1, 1}};
        for (int c = 0; c <= 16; c++) {
            roadDue("one GUEST", one, c, 0, 1, lowest[c][0], lowest[c][1]);
        }
        TurnFeast eight = Check.village("p90", EIGHT_ALIKE);
        roadDue("2 to the 24th away", eight, 8, 0, 72, 1, 256);
        roadDue("none away", eight, 1, 0, 72, 1, 4294967296L);
        roadDue("by those who get nothing", Check.village("p10", "010d0;000d0;000d0;000d0;000d0;000d0;000d0;000d0"),
            8, 0, 1, 1, 2);
        roadDue("an EMPTY house", Check.village("p10", "010d0", 0, 1), 16, 0, 1, 0, 1);
    }

    private static void roadCalls() {
        Check.told("Promise 26", "ROAD: above, below. BAD. (As the least long.)");
        Check.changesNothing("road(5, 0, 9, 0)", Check::busy, y -> y.road(5, 0, 9, 0));
        Check.refused("road(17, 0, 0, 0)", y -> y.road(17, 0, 0, 0), Check.BAD_LONG);
        Check.refused("road(0, 4, 0, 0) of four", y -> y.road(0, 4, 0, 0), Check.BAD_LONG);
        Check.refused("road(0, 0, 1000, 0)", y -> y.road(0, 0, 1000, 0), Check.BAD_LONG);
        Check.refused("road(0, 0, 0, 2)", y -> y.road(0, 0, 0, 2), Check.BAD_LONG);
        Check.refused("road(17, 4, 1000, 2)", y -> y.road(17, 4, 1000, 2), Check.BAD_LONG);
        Check.refused("road(0, 8, 0, 0) of eight", Check::full, y -> y.road(0, 8, 0, 0), Check.BAD_LONG);
        Check.refused("road(0, 0, 0, 0) of none", TurnFeast::new, y -> y.road(0, 0, 0, 0), Check.BAD_LONG);
        for (int far : Check.FAR) {
            Check.refused("road(" + far + ", 0, 0, 0)", y -> y.road(far, 0, 0, 0), Check.BAD_LONG);
            Check.refused("road(0, " + far + ", 0, 0)", y -> y.road(0, far, 0, 0), Check.BAD_LONG);
            Check.refused("road(0, 0, " + far + ", 0)", y -> y.road(0, 0, far, 0), Check.BAD_LONG);
            Check.refused("road(0, 0, 0, " + far + ")", y -> y.road(0, 0, 0, far), Check.BAD_LONG);
        }
    }

    /** Guest g eats g + 1 at the one house, so that what is given once tells who came. */
    private static TurnFeast countable(int guests) {
        return Check.village("p90", "010d0;020d0;030d0;040d0;050d0;060d0;070d0;080d0".substring(0, 6 * guests - 1));
    }

    private static void lots() {
        Check.told("Terms", "LOTS of m: SEED becomes 1103515245 SEED and 12345, as ints that wrap; its upper 16 bits as a "
            + "number from 0 on, modulo m.");
        int[][] byHand = {{0, 8, 0}, {1, 8, 6}, {1, 7, 3}, {-1, 8, 1}, {-1, 7, 5}, {-1, 3, 1}, {Check.MOST_INT, 8, 1},
            {Check.MOST_INT, 7, 4}, {Check.LEAST_INT, 8, 0}, {Check.LEAST_INT, 7, 1}, {Check.LEAST_INT, 1, 0}};
        for (int[] q : byHand) {
            Check.due("the first LOT of " + q[1] + " by " + q[0], countable(q[1]).season(q[0], 1, 0, 0), q[2] + 1);
        }
        int[] seeds = {0, 1, 2, 7, -1, -2, 12345, -12345, Check.MOST_INT, Check.LEAST_INT, Check.LEAST_INT + 1, 0x5a5a5a5a};
        for (int m = 1; m <= 8; m++) {
            TurnFeast x = countable(m);
            for (int seed : seeds) {
                for (int n : new int[] {1, 2, 98, 99}) {
                    Check.due("season(" + seed + ", " + n + ", 0, 0) of " + m, x.season(seed, n, 0, 0), lotsInAll(seed, n, m));
                }
            }
        }
    }

    private static int lotsInAll(int seed, int n, int m) {
        BigInteger wrap = BigInteger.ONE.shiftLeft(32);
        BigInteger s = BigInteger.valueOf(seed).mod(wrap);
        int sum = 0;
        for (int i = 0; i < n; i++) {
            s = s.multiply(BigInteger.valueOf(1103515245)).add(BigInteger.valueOf(12345)).mod(wrap);
            sum += s.shiftRight(16).intValueExact() % m + 1;
        }
        return sum;
    }

    /** How often the first of m comes; he is the one who sleeps nowhere. */
    private static int firstLots(int seed, int n, int m) {
        int first = 0;
        for (int k = 1; k <= n; k++) {
            first += lotsInAll(seed, k, m) - lotsInAll(seed, k - 1, m) == 1 ? 1 : 0;
        }
        return first;
    }

    private static void season() {
        Check.told("Part 4", "SEASON by a SEED: n times (1 to 99) a LOT of GUESTS comes");
        TurnFeast one = Check.village("s90;p90", "990d0");
        Check.due("once", one.season(3, 1, 1, 0), 11);
        Check.due("99 times", one.season(3, 99, 1, 0), 1089);
        Check.due("no tales", one.season(3, 99, 1, 1), 0);
        Check.due("99 tales", Check.village("p10", "010d0").season(3, 99, 0, 1), 99);
        Check.due("one tale", Check.village("p10", "010d0").season(3, 1, 0, 1), 1);
        Check.due("a tale of another house", Check.village("p10;p10", "010d0").season(3, 9, 1, 1), 0);
        Check.due("by one who eats nothing", Check.village("p10", "000d0").season(3, 99, 0, 0), 0);
        Check.due("no tale of one without HUNGER", Check.village("p10", "000d0").season(3, 99, 0, 1), 0);
        Check.due("an EMPTY house", Check.village("p10", "010d0", 0, 1).season(3, 99, 0, 0), 0);
        TurnFeast some = Check.village("p30;p10", "990d0;030d0;040d0");
        Check.due("no tale by the first LOT of 0", some.season(0, 1, 0, 1), 0);
        Check.due("a tale by the second GUEST", some.season(-1, 1, 0, 1), 1);
        Check.due("it is not the other house's", some.season(-1, 1, 1, 1), 0);
        Check.due("all tales are of one house or the other or none",
            some.season(5, 99, 0, 1) + some.season(5, 99, 1, 1) + firstLots(5, 99, 3), 99);
        Check.told("Part 4", "(no LOTS where there are none)");
        TurnFeast none = Check.village(ONES, "");
        for (int h = 0; h < 8; h++) {
            Check.due("gives without GUESTS", none.season(3, 99, h, 0), 0);
            Check.due("tales without GUESTS", none.season(3, 1, h, 1), 0);
        }
        TurnFeast faulty = Check.village("p10", "010d0;");
        Check.due("GUESTS with a FAULT", faulty.season(3, 99, 0, 0), 0);
    }

    private static void seasonCalls() {
        Check.told("Promise 27", "SEASON: what a house GIVES (what = 0), TALES (1). BAD.");
        Check.changesNothing("season(7, 30, 0, 0)", Check::busy, y -> y.season(7, 30, 0, 0));
        Check.refused("season(0, 0, 0, 0)", y -> y.season(0, 0, 0, 0), Check.BAD);
        Check.refused("season(0, 100, 0, 0)", y -> y.season(0, 100, 0, 0), Check.BAD);
        Check.refused("season(0, 1, 4, 0) of four", y -> y.season(0, 1, 4, 0), Check.BAD);
        Check.refused("season(0, 1, 0, 2)", y -> y.season(0, 1, 0, 2), Check.BAD);
        Check.refused("season(0, 0, 4, 2)", y -> y.season(0, 0, 4, 2), Check.BAD);
        Check.refused("season(0, 1, 8, 0) of eight", Check::full, y -> y.season(0, 1, 8, 0), Check.BAD);
        Check.refused("season(0, 1, 0, 0) of none", TurnFeast::new, y -> y.season(0, 1, 0, 0), Check.BAD);
        Check.refused("season(0, 0, 0, 0) of no GUESTS", () -> Check.village("p10", ""), y -> y.season(0, 0, 0, 0), Check.BAD);
        Check.refused("season(0, 1, 0, 2) of no GUESTS", () -> Check.village("p10", ""), y -> y.season(0, 1, 0, 2), Check.BAD);
        for (int far : Check.FAR) {
            Check.refused("season(0, " + far + ", 0, 0)", y -> y.season(0, far, 0, 0), Check.BAD);
            Check.refused("season(0, 1, " + far + ", 0)", y -> y.season(0, 1, far, 0), Check.BAD);
            Check.refused("season(0, 1, 0, " + far + ")", y -> y.season(0, 1, 0, far), Check.BAD);
            Check.due("any SEED: " + far, Check.village("p10", "010d0").season(far, 1, 0, 0), 1);
        }
    }
}
