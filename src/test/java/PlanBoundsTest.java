/** The bounds of the plans, promises 16 to 19, sentence by sentence. */
public final class PlanBoundsTest {
    private static final String ONES = "p10;p10;p10;p10;p10;p10;p10;p10";

    public static void main(String[] args) {
        livePlaces();
        liveLikeOnes();
        liveCalls();
        cook();
        cookCalls();
        fast();
        fastLikeOnes();
        fastCalls();
        soup();
        soupCalls();
        Check.end();
    }

    private static void liveDue(String told, TurnFeast x, int house, int place, int gives) {
        Check.due(told + ": live(" + house + ", 0)", x.live(house, 0), place);
        Check.due(told + ": live(" + house + ", 1)", x.live(house, 1), gives);
    }

    private static void livePlaces() {
        Check.told("Part 3", "LIVE of a house: the place in the ROW .. by which it GIVES least");
        liveDue("one house alone", Check.village("p50", "030d0"), 0, 0, 3);
        liveDue("the last place of eight", Check.village(ONES, "070d0"), 0, 7, 0);
        liveDue("it is there already", Check.village(ONES, "070d0"), 7, 7, 0);
        liveDue("the first place of eight", Check.village(ONES, "077u0"), 7, 0, 0);
        liveDue("a place amid", Check.village("p90;p10;p10", "010d0;012u0"), 0, 1, 0);
        liveDue("a place amid, from behind", Check.village("p10;p10;p90", "010d0;012u0"), 2, 1, 0);
        liveDue("TURNED, a place of the ROW as it stands", Check.village(ONES, "070d0", 1, 0), 0, 7, 0);
        liveDue("TURNED, the last to the end", Check.village(ONES, "070d0", 1, 0), 7, 7, 0);
        liveDue("less before tales", Check.village("p50;p50", "050d0"), 0, 1, 0);
        Check.told("Part 3", "(the others stay as they are to each other)");
        liveDue("from the first place", Check.village("p50;s10;p10", "070d0"), 0, 2, 3);
        liveDue("from the last place", Check.village("p10;s10;p50", "072u0"), 2, 0, 3);
        liveDue("from the last place, TURNED", Check.village("p10;s10;p50", "070d0", 1, 0), 2, 2, 3);
        Check.told("Part 3", "EMPTY are houses, not places");
        liveDue("an EMPTY one gives nothing anywhere", Check.village("p50;p50", "050d0", 0, 1), 0, 0, 0);
        liveDue("an EMPTY one feeds nobody ahead", Check.village("p50;p50", "050d0", 0, 1), 1, 0, 5);
        liveDue("all are EMPTY", Check.village(ONES, "990d0", 0, 255), 3, 0, 0);
    }

    private static void liveLikeOnes() {
        Check.told("Part 3", "of like ones by which it has most TALES");
        liveDue("one tale or none", Check.village("p50;p30", "080d0"), 0, 1, 5);
        liveDue("two tales or one", Check.village("p10;p10", "020d0;020d0;021u0"), 0, 1, 3);
        liveDue("and from there", Check.village("p10;p10", "020d0;020d0;021u0"), 1, 1, 3);
        Check.told("Part 3", "of like ones the least");
        liveDue("no GUESTS", Check.village(ONES, ""), 7, 0, 0);
        liveDue("GUESTS that go by all", Check.village(ONES, "990d0;997u0"), 4, 0, 2);
        liveDue("least, with as many tales", Check.village("p10;p10", "020d0;021u0"), 1, 0, 2);
        liveDue("none of the first two", Check.village("p10;p10;p10;p10", "020d0"), 0, 2, 0);
    }

    private static void liveCalls() {
        Check.told("Promise 16", "LIVE: the place (what = 0), what it GIVES (1).");
        Check.changesNothing("live(0, 0)", Check::busy, y -> y.live(0, 0));
        Check.changesNothing("live(3, 1)", Check::busy, y -> y.live(3, 1));
        TurnFeast x = Check.full();
        for (int h = 0; h < 8; h++) {
            int place = x.live(h, 0);
            Check.due("a place of the ROW, " + h, place >= 0 && place < 8 ? 1 : 0, 1);
        }
        Check.told("Promise 16", "BAD");
        Check.refused("live(0, 2)", y -> y.live(0, 2), Check.BAD);
        Check.refused("live(4, 0) of four", y -> y.live(4, 0), Check.BAD);
        Check.refused("live(4, 2)", y -> y.live(4, 2), Check.BAD);
        Check.refused("live(8, 0) of eight", Check::full, y -> y.live(8, 0), Check.BAD);
        Check.refused("live(0, 0) of none", TurnFeast::new, y -> y.live(0, 0), Check.BAD);
        for (int far : Check.FAR) {
            Check.refused("live(" + far + ", 0)", y -> y.live(far, 0), Check.BAD);
            Check.refused("live(0, " + far + ")", y -> y.live(0, far), Check.BAD);
        }
    }

    private static void cookDue(String told, TurnFeast x, int house, int what, int gives) {
        Check.due(told + ": cook(" + house + ", 0)", x.cook(house, 0), what);
        Check.due(told + ": cook(" + house + ", 1)", x.cook(house, 1), gives);
    }

    private static void cook() {
        Check.told("Part 3", "COOK of a house: what it should cook (0 p, 1 s, 2 w, 3 v), likewise.");
        String[] kinds = {"p", "s", "w", "v"};
        for (String kind : kinds) {
            cookDue("one left, by " + kind, Check.village(kind + "50", "060d0"), 0, 2, 5);
            cookDue("none left, by " + kind, Check.village(kind + "50", "050d0"), 0, 0, 5);
            cookDue("two left, by " + kind, Check.village(kind + "50", "070d0"), 0, 0, 5);
            cookDue("no GUESTS, by " + kind, Check.village(kind + "50", ""), 0, 0, 0);
            cookDue("EMPTY, by " + kind, Check.village(kind + "50", "060d0", 0, 1), 0, 0, 0);
        }
        cookDue("a tale that the next one has", Check.village("p10;p90", "020d0"), 0, 2, 1);
        cookDue("the others stay as they are", Check.village("s10;p30", "070d0"), 1, 2, 5);
        cookDue("behind another sweet", Check.village("w10;p10", "060d0"), 1, 2, 1);
        cookDue("by more than one GUEST", Check.village("p50", "060d0;050d0;990d0"), 0, 2, 15);
        cookDue("TURNED", Check.village("p10;p10", "030d0", 1, 0), 0, 2, 1);
        TurnFeast planned = Check.village("p50;p50", "060d0");
        liveDue("less elsewhere", planned, 0, 1, 1);
        cookDue("behind LIVE, by which it gave less", planned, 0, 2, 5);
        liveDue("and LIVE again", planned, 0, 1, 1);
        cookDue("of house 7", Check.village(ONES, "027d0"), 7, 2, 1);
    }

    private static void cookCalls() {
        Check.told("Promise 17", "COOK: what (what = 0), what it GIVES (1).");
        Check.changesNothing("cook(0, 0)", Check::busy, y -> y.cook(0, 0));
        Check.changesNothing("cook(3, 1)", Check::busy, y -> y.cook(3, 1));
        Check.told("Promise 17", "BAD");
        Check.refused("cook(0, 2)", y -> y.cook(0, 2), Check.BAD);
        Check.refused("cook(4, 0) of four", y -> y.cook(4, 0), Check.BAD);
        Check.refused("cook(4, 2)", y -> y.cook(4, 2), Check.BAD);
        Check.refused("cook(8, 0) of eight", Check::full, y -> y.cook(8, 0), Check.BAD);
        Check.refused("cook(0, 0) of none", TurnFeast::new, y -> y.cook(0, 0), Check.BAD);
        for (int far : Check.FAR) {
            Check.refused("cook(" + far + ", 0)", y -> y.cook(far, 0), Check.BAD);
            Check.refused("cook(0, " + far + ")", y -> y.cook(0, far), Check.BAD);
        }
    }

    private static void fastDue(String told, TurnFeast x, int house, int guest, int many, int bits) {
        String call = told + ": fast(" + house + ", " + guest;
        Check.due(call + ", 0)", x.fast(house, guest, 0), many);
        Check.due(call + ", 1)", x.fast(house, guest, 1), bits);
    }

    private static void fast() {
        Check.told("Part 3", "FAST of a house and a GUEST: the fewest houses (0 to 8) EMPTY .. by which that GUEST "
            + "SLEEPS there");
        TurnFeast x = Check.village(ONES, "010d0;017u0;080d0;090d0");
        fastDue("none need be", x, 0, 0, 0, 0);
        fastDue("one", x, 1, 0, 1, 1);
        fastDue("seven", x, 7, 0, 7, 127);
        fastDue("seven, up", x, 0, 1, 7, 254);
        fastDue("none, and all eight are gone by", x, 7, 2, 0, 0);
        fastDue("too hungry for that house", x, 6, 2, Check.NONE, Check.NONE);
        fastDue("too hungry for all", x, 7, 3, Check.NONE, Check.NONE);
        fastDue("TURNED", Check.village(ONES, "010d0", 1, 0), 0, 0, 7, 254);
        Check.told("Part 3", "FAST: NONE");
        fastDue("without HUNGER", Check.village("p10", "000d0"), 0, 0, Check.NONE, Check.NONE);
        fastDue("no place where it BEGINS", Check.village("p10", "011d0"), 0, 0, Check.NONE, Check.NONE);
        fastDue("it goes the other way", Check.village("p10;p10", "010u0"), 1, 0, Check.NONE, Check.NONE);
        fastDue("it turns that down", Check.village("p50", "040d1"), 0, 0, Check.NONE, Check.NONE);
        Check.told("Part 3", "in place of those that are");
        fastDue("that house is EMPTY", Check.village("p10;p10", "010d0", 0, 1), 0, 0, 0, 0);
        fastDue("all are EMPTY", Check.village(ONES, "010d0", 0, 255), 7, 0, 7, 127);
        fastDue("one is EMPTY that would have to be", Check.village("p10;p10", "010d0", 0, 1), 1, 0, 1, 1);
        fastDue("one is EMPTY that must not be", Check.village("p10;p10", "020d0", 0, 1), 1, 0, 0, 0);
    }

    private static void fastLikeOnes() {
        Check.told("Part 3", "of like ones the least bits: how many; as bits; NONE");
        fastDue("either of two", Check.village("p10;p10;p10", "020d0"), 2, 0, 1, 1);
        fastDue("two of three", Check.village("p10;p10;p10;p10", "020d0"), 3, 0, 2, 3);
        fastDue("two of three, up", Check.village("p10;p10;p10;p10", "023u0"), 0, 0, 2, 6);
        Check.told("Part 3", "the fewest before the least bits");
        fastDue("4, not 3", Check.village("p10;p10;p20;p10", "030d0"), 3, 0, 1, 4);
        fastDue("a house that there is not need not be EMPTY", Check.village("p10", "010d0", 0, 254), 0, 0, 0, 0);
        fastDue("a salt one", Check.village("p10;s10;p30", "050d0"), 2, 0, 0, 0);
        fastDue("without the salt one", Check.village("s10;p10;p10", "010d0"), 1, 0, 1, 1);
    }

    private static void fastCalls() {
        Check.told("Promise 18", "FAST: how many (what = 0), as bits (1); NONE.");
        Check.changesNothing("fast(0, 0, 0)", Check::busy, y -> y.fast(0, 0, 0));
        Check.changesNothing("fast(3, 1, 1)", Check::busy, y -> y.fast(3, 1, 1));
        Check.told("Promise 18", "BAD");
        Check.refused("fast(0, 0, 2)", y -> y.fast(0, 0, 2), Check.BAD);
        Check.refused("fast(4, 0, 0) of four", y -> y.fast(4, 0, 0), Check.BAD);
        Check.refused("fast(0, 5, 0) of five", y -> y.fast(0, 5, 0), Check.BAD);
        Check.refused("fast(4, 5, 2)", y -> y.fast(4, 5, 2), Check.BAD);
        Check.refused("fast(8, 0, 0) of eight", Check::full, y -> y.fast(8, 0, 0), Check.BAD);
        Check.refused("fast(0, 8, 0) of eight", Check::full, y -> y.fast(0, 8, 0), Check.BAD);
        Check.refused("fast(0, 0, 0) of none", TurnFeast::new, y -> y.fast(0, 0, 0), Check.BAD);
        Check.refused("fast(0, 0, 0) of no GUEST", () -> Check.village("p10", ""), y -> y.fast(0, 0, 0), Check.BAD);
        Check.refused("fast(0, 0, 0) of no house", () -> Check.village("", "010d0"), y -> y.fast(0, 0, 0), Check.BAD);
        for (int far : Check.FAR) {
            Check.refused("fast(" + far + ", 0, 0)", y -> y.fast(far, 0, 0), Check.BAD);
            Check.refused("fast(0, " + far + ", 0)", y -> y.fast(0, far, 0), Check.BAD);
            Check.refused("fast(0, 0, " + far + ")", y -> y.fast(0, 0, far), Check.BAD);
        }
    }

    private static void soup() {
        Check.told("Part 3", "SOUP of both: the least PORTION (1 to 9) of that house by which it SLEEPS there; NONE.");
        for (int hunger = 1; hunger <= 9; hunger++) {
            Check.due("hunger " + hunger, Check.village("p50", "0" + hunger + "0d0").soup(0, 0), hunger);
            Check.due("hunger " + hunger + ", it may turn down", Check.village("p50", "0" + hunger + "0d9").soup(0, 0), hunger);
        }
        Check.due("hunger 10", Check.village("p90", "100d0").soup(0, 0), Check.NONE);
        Check.due("behind salt, the most", Check.village("s10;p50", "120d0").soup(1, 0), 9);
        Check.due("behind salt, too much", Check.village("s10;p50", "130d0").soup(1, 0), Check.NONE);
        Check.due("behind salt, the least", Check.village("s10;p50", "040d0").soup(1, 0), 1);
        Check.due("behind salt, more than it needs", Check.village("s10;p50", "020d0").soup(1, 0), 1);
        Check.due("behind salt, turned down", Check.village("s10;p50", "020d1").soup(1, 0), Check.NONE);
        Check.due("sweet, half of one", Check.village("w90", "100d0").soup(0, 0), 9);
        Check.due("sweet, two left", Check.village("w90", "110d0").soup(0, 0), Check.NONE);
        Check.due("sweet, the least", Check.village("w90", "020d0").soup(0, 0), 1);
        Check.due("pickle", Check.village("v10", "090d0").soup(0, 0), 9);
        Check.due("full ahead of it", Check.village("p50;p50", "050d0").soup(1, 0), Check.NONE);
        Check.due("EMPTY", Check.village("p50", "050d0", 0, 1).soup(0, 0), Check.NONE);
        Check.due("behind an EMPTY one", Check.village("p50;p50", "050d0", 0, 1).soup(1, 0), 5);
        Check.due("without HUNGER", Check.village("p50", "000d0").soup(0, 0), Check.NONE);
        Check.due("no place where it BEGINS", Check.village("p50", "011d0").soup(0, 0), Check.NONE);
        Check.due("house 7, GUEST 7", Check.village(ONES, "010d0;010d0;010d0;010d0;010d0;010d0;010d0;097d0").soup(7, 7), 9);
        Check.due("TURNED", Check.village("p50;p10", "050d0", 1, 0).soup(0, 0), 4);
    }

    private static void soupCalls() {
        Check.told("Promise 19", "SOUP; NONE.");
        Check.changesNothing("soup(0, 0)", Check::busy, y -> y.soup(0, 0));
        Check.changesNothing("soup(3, 1)", Check::busy, y -> y.soup(3, 1));
        Check.told("Promise 19", "BAD");
        Check.refused("soup(4, 0) of four", y -> y.soup(4, 0), Check.BAD);
        Check.refused("soup(0, 5) of five", y -> y.soup(0, 5), Check.BAD);
        Check.refused("soup(4, 5)", y -> y.soup(4, 5), Check.BAD);
        Check.refused("soup(8, 0) of eight", Check::full, y -> y.soup(8, 0), Check.BAD);
        Check.refused("soup(0, 8) of eight", Check::full, y -> y.soup(0, 8), Check.BAD);
        Check.refused("soup(0, 0) of none", TurnFeast::new, y -> y.soup(0, 0), Check.BAD);
        Check.refused("soup(0, 0) of no GUEST", () -> Check.village("p10", ""), y -> y.soup(0, 0), Check.BAD);
        Check.refused("soup(0, 0) of no house", () -> Check.village("", "010d0"), y -> y.soup(0, 0), Check.BAD);
        for (int far : Check.FAR) {
            Check.refused("soup(" + far + ", 0)", y -> y.soup(far, 0), Check.BAD);
            Check.refused("soup(0, " + far + ")", y -> y.soup(0, far), Check.BAD);
        }
    }
}
