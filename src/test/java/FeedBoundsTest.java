/** The bounds of how a guest is fed, and of promises 10 to 15, sentence by sentence. */
public final class FeedBoundsTest {
    private static final String ONES = "p10;p10;p10;p10;p10;p10;p10;p10";

    public static void main(String[] args) {
        turnedAndEmpty();
        begins();
        goesOn();
        emptyHouses();
        offers();
        turnsDown();
        eats();
        sweet();
        pickle();
        sleeps();
        givesCalls();
        fedCalls();
        allCalls();
        prices();
        poor();
        passed();
        Check.end();
    }

    /** Where it SLEEPS, what HUNGER is left, how many it TURNS down, by how many houses it goes. */
    private static void fedDue(TurnFeast x, int g, int sleeps, int left, int turns, int doors) {
        int[] due = {sleeps, left, turns, doors};
        for (int what = 0; what < 4; what++) {
            Check.due("fed(" + g + ", " + what + ")", x.fed(g, what), due[what]);
        }
    }

    private static void fedDue(String houses, String guest, int sleeps, int left, int turns, int doors) {
        int[] due = {sleeps, left, turns, doors};
        TurnFeast x = Check.village(houses, guest);
        for (int what = 0; what < 4; what++) {
            Check.due("fed(0, " + what + ") of " + guest + " by " + houses, x.fed(0, what), due[what]);
        }
    }

    private static void givesDue(TurnFeast x, int g, int... due) {
        for (int h = 0; h < due.length; h++) {
            Check.due("gives(" + g + ", " + h + ")", x.gives(g, h), due[h]);
        }
    }

    private static void turnedAndEmpty() {
        Check.told("Terms", "THE ROW is of HOUSES as they are told; TURNED (0, 1; 0 at first): of the last one first.");
        TurnFeast x = Check.village("p10;p20;p40", "060d0");
        givesDue(x, 0, 1, 2, 3);
        x.set(0, 1);
        givesDue(x, 0, 0, 2, 4);
        x.set(0, 0);
        givesDue(x, 0, 1, 2, 3);
        TurnFeast one = Check.village("p10", "060d0", 1, 0);
        givesDue(one, 0, 1);

        Check.told("Terms", "EMPTY are HOUSES (bits of 0 to 7; none at first).");
        for (int h = 0; h < 8; h++) {
            TurnFeast y = Check.village(ONES, "990d0", 0, 1 << h);
            for (int other = 0; other < 8; other++) {
                Check.due("EMPTY " + h + ", gives(0, " + other + ")", y.gives(0, other), other == h ? 0 : 1);
            }
            Check.due("hunger left", y.fed(0, 1), 92);
        }
        TurnFeast turned = Check.village("p10;p20;p40", "990d0", 1, 1);
        givesDue(turned, 0, 0, 2, 4);
        TurnFeast beyond = Check.village("p10;p20", "990d0", 0, 252);
        givesDue(beyond, 0, 1, 2);
        Check.typeAll(beyond, 0, ";p30");
        givesDue(beyond, 0, 1, 2, 0);
    }

    private static void begins() {
        Check.told("Terms", "A GUEST BEGINS at a place of the ROW (where there is none, it is not fed at all)");
        fedDue("p10;p10", "051d0", Check.NONE, 4, 0, 1);
        fedDue("p10;p10", "052d0", Check.NONE, 5, 0, 0);
        fedDue("p10;p10", "052u0", Check.NONE, 5, 0, 0);
        fedDue("p10;p10", "057u9", Check.NONE, 5, 0, 0);
        fedDue("p90", "010d0", 0, 0, 0, 1);
        fedDue("p90", "011u0", Check.NONE, 1, 0, 0);
        fedDue("", "010d0", Check.NONE, 1, 0, 0);
        fedDue(ONES, "017d0", 7, 0, 0, 1);
        fedDue(ONES, "017u0", 7, 0, 0, 1);
        TurnFeast x = Check.village(ONES.substring(0, 27), "997u0");
        givesDue(x, 0, 0, 0, 0, 0, 0, 0, 0);
        Check.typeAll(x, 0, ";p20");
        givesDue(x, 0, 1, 1, 1, 1, 1, 1, 1, 2);
    }

    private static void goesOn() {
        Check.told("Terms", "and goes from place to place its way");
        givesDue(Check.village("p10;p20;p30", "991u0"), 0, 1, 2, 0);
        givesDue(Check.village("p10;p20;p30", "991d0"), 0, 0, 2, 3);
        givesDue(Check.village("p10;p20;p30", "991u0", 1, 0), 0, 0, 2, 3);
        givesDue(Check.village("p10;p20;p30", "991d0", 1, 0), 0, 1, 2, 0);
        Check.told("Terms", "as long as it has HUNGER and there is a place");
        fedDue(ONES, "070d0", 6, 0, 0, 7);
        fedDue(ONES, "080d0", 7, 0, 0, 8);
        fedDue(ONES, "090d0", Check.NONE, 1, 0, 8);
        fedDue(ONES, "077u0", 1, 0, 0, 7);
        fedDue(ONES, "087u0", 0, 0, 0, 8);
        fedDue(ONES, "097u0", Check.NONE, 1, 0, 8);
        fedDue(ONES, "990u0", Check.NONE, 98, 0, 1);
        fedDue(ONES, "997d0", Check.NONE, 98, 0, 1);
    }

    private static void emptyHouses() {
        Check.told("Terms", "An EMPTY house gives nothing.");
        TurnFeast all = Check.village(ONES, "990d9;010u0", 0, 255);
        givesDue(all, 0, 0, 0, 0, 0, 0, 0, 0, 0);
        fedDue(all, 0, Check.NONE, 99, 0, 8);
        fedDue(all, 1, Check.NONE, 1, 0, 1);
        TurnFeast salt = Check.village("s10;p10;p10", "990d0", 0, 2);
        givesDue(salt, 0, 1, 0, 3);
        TurnFeast noSalt = Check.village("s10;p10;p10", "990d0", 0, 1);
        givesDue(noSalt, 0, 0, 1, 1);
        TurnFeast sweet = Check.village("w10;p10", "990d0", 0, 1);
        fedDue(sweet, 0, Check.NONE, 98, 0, 2);
        TurnFeast pickle = Check.village("v10;p10", "500d0", 0, 1);
        fedDue(pickle, 0, Check.NONE, 49, 0, 2);
        TurnFeast big = Check.village("p90;p90", "010d1", 0, 1);
        fedDue(big, 0, Check.NONE, 1, 1, 2);
    }

    private static void offers() {
        Check.told("Terms", "Else it is offered the PORTION, and 2 more, if what it ate last was salt");
        givesDue(Check.village("s90;s90;p90;p90", "990d0"), 0, 9, 11, 11, 9);
        givesDue(Check.village("w10;p30", "990d0"), 0, 1, 3);
        givesDue(Check.village("v10;p30", "990d0"), 0, 1, 3);
        givesDue(Check.village("p10;p30", "990d0"), 0, 1, 3);
        givesDue(Check.village("s30", "990d0;990d0"), 1, 3);
        givesDue(Check.village("p10;s10", "991u0"), 0, 3, 1);
        givesDue(Check.village("s10;p90;p10;p10", "040d1"), 0, 1, 0, 3, 0);
        Check.told("Terms", "what it ate last: neither what was turned down nor an EMPTY house");
        TurnFeast x = Check.village("s10;p90;p90;p10;p10", "050d1", 0, 4);
        givesDue(x, 0, 1, 0, 0, 3, 1);
        givesDue(Check.village("p10;s90;p30", "030d1"), 0, 1, 0, 2);
    }

    private static void turnsDown() {
        Check.told("Terms", "if that is more than its HUNGER, and it may still TURN one down, it does (nothing is given)");
        for (int hunger = 1; hunger <= 9; hunger++) {
            TurnFeast even = Check.village("p" + hunger + "0", "0" + hunger + "0d9");
            fedDue(even, 0, 0, 0, 0, 1);
            givesDue(even, 0, hunger);
            if (hunger < 9) {
                TurnFeast more = Check.village("p" + (hunger + 1) + "0", "0" + hunger + "0d9");
                fedDue(more, 0, Check.NONE, hunger, 1, 1);
                givesDue(more, 0, 0);
            }
        }
        fedDue("s10;p30", "060d1", 1, 0, 0, 2);
        fedDue("s10;p30", "050d1", Check.NONE, 4, 1, 2);
        fedDue("s10;p30", "050d0", 1, 0, 0, 2);
        String nines = "p90;p90;p90;p90;p90;p90;p90;p90";
        fedDue(nines, "010d0", 0, 0, 0, 1);
        fedDue(nines, "010d1", 1, 0, 1, 2);
        fedDue(nines, "010d6", 6, 0, 6, 7);
        fedDue(nines, "010d7", 7, 0, 7, 8);
        fedDue(nines, "010d8", Check.NONE, 1, 8, 8);
        fedDue(nines, "010d9", Check.NONE, 1, 8, 8);
        givesDue(Check.village(nines, "010d7"), 0, 0, 0, 0, 0, 0, 0, 0, 1);
        givesDue(Check.village(nines, "010d8"), 0, 0, 0, 0, 0, 0, 0, 0, 0);
        Check.told("Terms", "of each GUEST by itself");
        TurnFeast two = Check.village("p90;p90", "010d1;010d1");
        fedDue(two, 0, 1, 0, 1, 2);
        fedDue(two, 1, 1, 0, 1, 2);
    }

    private static void eats() {
        Check.told("Terms", "Else it eats that, at most as much as its HUNGER: that the house GIVES; "
            + "its HUNGER is as much less");
        givesDue(Check.village("p50", "060d0"), 0, 5);
        fedDue("p50", "060d0", Check.NONE, 1, 0, 1);
        givesDue(Check.village("p50", "050d0"), 0, 5);
        fedDue("p50", "050d0", 0, 0, 0, 1);
        givesDue(Check.village("p50", "040d0"), 0, 4);
        fedDue("p50", "040d0", 0, 0, 0, 1);
        givesDue(Check.village("p10", "990d0"), 0, 1);
        fedDue("p10", "990d0", Check.NONE, 98, 0, 1);
    }

    private static void sweet() {
        Check.told("Terms", "behind something sweet only half of what is left then (cut)");
        int[] left = {0, 0, 1, 1, 2, 2, 3};
        for (int over = 0; over < left.length; over++) {
            fedDue("w10", "0" + (over + 1) + "0d0", left[over] == 0 ? 0 : Check.NONE, left[over], 0, 1);
        }
        fedDue("w10", "990d0", Check.NONE, 49, 0, 1);
        fedDue("w90", "050d0", 0, 0, 0, 1);
        fedDue("w90;p10", "010d1", 1, 0, 1, 2);
        givesDue(Check.village("w10;p90", "060d0"), 0, 1, 2);
        Check.told("Terms", "what is turned down halves nothing");
        fedDue("w90", "080d1", Check.NONE, 8, 1, 1);
    }

    private static void pickle() {
        Check.told("Terms", "behind pickle 3 more, if any is left");
        fedDue("v10", "010d0", 0, 0, 0, 1);
        fedDue("v10", "020d0", Check.NONE, 4, 0, 1);
        fedDue("v90", "090d0", 0, 0, 0, 1);
        fedDue("v90", "100d0", Check.NONE, 4, 0, 1);
        fedDue("v90", "080d0", 0, 0, 0, 1);
        fedDue("v10;p90", "020d0", 1, 0, 0, 2);
        givesDue(Check.village("v10;p90", "020d0"), 0, 1, 4);
        Check.told("Terms", "99 at most");
        fedDue("v10", "990d0", Check.NONE, 99, 0, 1);
        fedDue("v20", "990d0", Check.NONE, 99, 0, 1);
        fedDue("v30", "990d0", Check.NONE, 99, 0, 1);
        fedDue("v40", "990d0", Check.NONE, 98, 0, 1);
        fedDue("v10", "970d0", Check.NONE, 99, 0, 1);
        fedDue("v10", "960d0", Check.NONE, 98, 0, 1);
        fedDue("v10;v10;v10", "990d0", Check.NONE, 99, 0, 3);
        Check.told("Terms", "what is turned down opens nothing");
        fedDue("v90", "080d1", Check.NONE, 8, 1, 1);
    }

    private static void sleeps() {
        Check.told("Terms", "With no HUNGER left it SLEEPS there: that house has its TALE.");
        TurnFeast x = Check.village("p10;p10", "010d0;020d0;030d0;021u0");
        fedDue(x, 0, 0, 0, 0, 1);
        fedDue(x, 1, 1, 0, 0, 2);
        fedDue(x, 2, Check.NONE, 1, 0, 2);
        fedDue(x, 3, 0, 0, 0, 2);
        Check.due("all(0, 1)", x.all(0, 1), 2);
        Check.due("all(1, 1)", x.all(1, 1), 1);
        Check.due("count(5)", x.count(5), 3);
        Check.told("Terms", "(A GUEST without HUNGER at first SLEEPS nowhere.)");
        for (String way : new String[] {"000d0", "000u9", "001d0", "007u0"}) {
            TurnFeast none = Check.village("p10;w10", way);
            fedDue(none, 0, Check.NONE, 0, 0, 0);
            givesDue(none, 0, 0, 0);
            Check.due("all(0, 1)", none.all(0, 1), 0);
            Check.due("all(1, 1)", none.all(1, 1), 0);
            Check.due("count(5)", none.count(5), 0);
            Check.due("passed()", none.passed(), 3);
        }
    }

    private static void givesCalls() {
        Check.told("Promise 10", "What a house GIVES to a GUEST.");
        TurnFeast x = Check.village("p10;p90;p10", "050d0;000d0;053d0");
        givesDue(x, 0, 1, 4, 0);
        givesDue(x, 1, 0, 0, 0);
        givesDue(x, 2, 0, 0, 0);
        TurnFeast most = Check.village("s90;p90", "990d0");
        givesDue(most, 0, 9, 11);
        TurnFeast eight = Check.village(ONES, "087u0;010d0;010d0;010d0;010d0;010d0;010d0;080d0");
        Check.due("the first by the last", eight.gives(0, 7), 1);
        Check.due("the last by the first", eight.gives(7, 0), 1);
        Check.due("the last by the last", eight.gives(7, 7), 1);
        Check.changesNothing("gives(0, 0)", Check::busy, y -> y.gives(0, 0));
        Check.told("Promise 10", "BAD");
        Check.refused("gives(5, 0) of five", y -> y.gives(5, 0), Check.BAD);
        Check.refused("gives(0, 4) of four", y -> y.gives(0, 4), Check.BAD);
        Check.refused("gives(8, 0) of eight", Check::full, y -> y.gives(8, 0), Check.BAD);
        Check.refused("gives(0, 8) of eight", Check::full, y -> y.gives(0, 8), Check.BAD);
        Check.refused("gives(5, 4)", y -> y.gives(5, 4), Check.BAD);
        Check.refused("gives(0, 0) of none", TurnFeast::new, y -> y.gives(0, 0), Check.BAD);
        Check.refused("gives(0, 0) of no house", () -> Check.village("", "010d0"), y -> y.gives(0, 0), Check.BAD);
        Check.refused("gives(0, 0) of no GUEST", () -> Check.village("p10", ""), y -> y.gives(0, 0), Check.BAD);
        for (int far : Check.FAR) {
            Check.refused("gives(" + far + ", 0)", y -> y.gives(far, 0), Check.BAD);
            Check.refused("gives(0, " + far + ")", y -> y.gives(0, far), Check.BAD);
        }
    }

    private static void fedCalls() {
        Check.told("Promise 11", "Where it SLEEPS (what = 0; NONE)");
        Check.due("at house 0", Check.village("p10", "010d0").fed(0, 0), 0);
        Check.due("at house 7", Check.village(ONES, "080d0").fed(0, 0), 7);
        Check.due("the house, not the place", Check.village("p10;p10", "010d0", 1, 0).fed(0, 0), 1);
        Check.due("nowhere", Check.village("p10", "020d0").fed(0, 0), Check.NONE);
        Check.told("Promise 11", "what HUNGER is left (1)");
        Check.due("all of it", Check.village("", "990d0").fed(0, 1), 99);
        Check.due("none", Check.village("p10", "010d0").fed(0, 1), 0);
        Check.told("Promise 11", "how many it TURNS down (2)");
        Check.due("it may, but need not", Check.village("p10", "010d9").fed(0, 2), 0);
        Check.due("eight", Check.village(ONES.replace('1', '2'), "010d9").fed(0, 2), 8);
        Check.told("Part 2", "by how many houses it goes (EMPTY ones, too)");
        Check.due("none", Check.village("p10", "011d0").fed(0, 3), 0);
        Check.due("eight", Check.village(ONES, "990d0").fed(0, 3), 8);
        Check.due("eight EMPTY ones", Check.village(ONES, "990d0", 0, 255).fed(0, 3), 8);
        Check.due("one EMPTY behind which it is full", Check.village(ONES, "010d0", 0, 1).fed(0, 3), 2);
        Check.due("where it turns down", Check.village("p90;p10", "010d1").fed(0, 3), 2);
        Check.changesNothing("fed(0, 0)", Check::busy, y -> y.fed(0, 0));
        Check.told("Promise 11", "BAD");
        Check.refused("fed(0, 4)", y -> y.fed(0, 4), Check.BAD);
        Check.refused("fed(5, 0) of five", y -> y.fed(5, 0), Check.BAD);
        Check.refused("fed(5, 4)", y -> y.fed(5, 4), Check.BAD);
        Check.refused("fed(8, 0) of eight", Check::full, y -> y.fed(8, 0), Check.BAD);
        Check.refused("fed(0, 0) of none", TurnFeast::new, y -> y.fed(0, 0), Check.BAD);
        for (int far : Check.FAR) {
            Check.refused("fed(" + far + ", 0)", y -> y.fed(far, 0), Check.BAD);
            Check.refused("fed(0, " + far + ")", y -> y.fed(0, far), Check.BAD);
        }
    }

    private static String guests(String one, int n) {
        StringBuilder told = new StringBuilder(one);
        for (int i = 1; i < n; i++) {
            told.append(';').append(one);
        }
        return told.toString();
    }

    private static void allCalls() {
        Check.told("Promise 12", "What a house GIVES to all (what = 0), TALES (1).");
        TurnFeast none = Check.village("p10", "");
        Check.due("no GUESTS, gives", none.all(0, 0), 0);
        Check.due("no GUESTS, tales", none.all(0, 1), 0);
        TurnFeast most = Check.village("s90;p90", guests("990d0", 8));
        Check.due("most, ahead", most.all(0, 0), 72);
        Check.due("most, behind salt", most.all(1, 0), 88);
        Check.due("no tales", most.all(1, 1), 0);
        TurnFeast tales = Check.village("p10", guests("010d0", 8));
        Check.due("eight give", tales.all(0, 0), 8);
        Check.due("eight tales", tales.all(0, 1), 8);
        TurnFeast last = Check.village(ONES, "017u0");
        Check.due("house 7 gives", last.all(7, 0), 1);
        Check.due("house 7's tale", last.all(7, 1), 1);
        Check.due("house 6 gives", last.all(6, 0), 0);
        Check.told("Promise 12", "BAD");
        Check.refused("all(0, 2)", y -> y.all(0, 2), Check.BAD);
        Check.refused("all(4, 0) of four", y -> y.all(4, 0), Check.BAD);
        Check.refused("all(4, 2)", y -> y.all(4, 2), Check.BAD);
        Check.refused("all(8, 0) of eight", Check::full, y -> y.all(8, 0), Check.BAD);
        Check.refused("all(0, 0) of none", TurnFeast::new, y -> y.all(0, 0), Check.BAD);
        for (int far : Check.FAR) {
            Check.refused("all(" + far + ", 0)", y -> y.all(far, 0), Check.BAD);
            Check.refused("all(0, " + far + ")", y -> y.all(0, far), Check.BAD);
        }
    }

    private static void prices() {
        Check.told("Part 2", "its PRICE: COSTS, and 3 for each TALE, less what it GIVES (perhaps less than 0)");
        Check.due("COSTS alone, the least", Check.village("p10", "").price(0), 0);
        Check.due("COSTS alone, the most", Check.village("p19", "").price(0), 9);
        Check.due("one tale", Check.village("p10", "010d0").price(0), 2);
        Check.due("two of three sleep", Check.village("p31", "040d0;010d0;010d0;000d0").price(0), 2);
        Check.due("3 by a tale, 3 given", Check.village("p30", "030d0").price(0), 0);
        Check.due("less than 0", Check.village("p40", "040d0").price(0), -1);
        Check.due("eight tales, the greatest", Check.village("p19", guests("010d0", 8)).price(0), 25);
        Check.due("the least", Check.village("s90;p90", guests("990d0", 8)).price(1), -88);
        Check.told("Promise 13", "PRICE, as any number. BAD: -10002.");
        Check.refused("price(4) of four", y -> y.price(4), -10002);
        Check.refused("price(8) of eight", Check::full, y -> y.price(8), -10002);
        Check.refused("price(0) of none", TurnFeast::new, y -> y.price(0), -10002);
        for (int far : Check.FAR) {
            Check.refused("price(" + far + ")", y -> y.price(far), -10002);
        }
    }

    private static void poor() {
        Check.told("Part 2", "POOR: the house that GIVES most, of like ones the first; NONE.");
        Check.due("no houses", new TurnFeast().poor(), Check.NONE);
        Check.due("no houses, but a GUEST", Check.village("", "990d0").poor(), Check.NONE);
        Check.due("one that gives nothing", Check.village("p10", "").poor(), 0);
        Check.due("eight that give nothing", Check.village(ONES, "").poor(), 0);
        Check.due("eight alike", Check.village(ONES, "990d0").poor(), 0);
        Check.due("the first of two", Check.village("p10;p20;p20", "990d0").poor(), 1);
        Check.due("the last of all", Check.village(ONES, "017u0").poor(), 7);
        Check.due("the first of all", Check.village(ONES, "010d0").poor(), 0);
        Check.due("the first by its number, TURNED", Check.village("p20;p20", "990d0", 1, 0).poor(), 0);
        Check.told("Promise 14", "POOR; NONE.");
        Check.changesNothing("poor()", Check::busy, TurnFeast::poor);
    }

    private static void passed() {
        Check.told("Part 2", "PASSED: houses by which no GUEST goes, as bits.");
        Check.due("no houses", new TurnFeast().passed(), 0);
        Check.due("no houses, but a GUEST", Check.village("", "990d0").passed(), 0);
        Check.due("no GUESTS", Check.village(ONES, "").passed(), 255);
        Check.due("a GUEST by all", Check.village(ONES, "990d0").passed(), 0);
        Check.due("a GUEST by all, EMPTY ones too", Check.village(ONES, "990d0", 0, 255).passed(), 0);
        Check.due("all but house 7", Check.village(ONES, "070d0").passed(), 128);
        Check.due("all but house 0", Check.village(ONES, "077u0").passed(), 1);
        Check.due("all but house 0, TURNED", Check.village(ONES, "070d0", 1, 0).passed(), 1);
        Check.due("two that meet", Check.village(ONES, "030d0;027u0").passed(), 56);
        Check.due("EMPTY and by nobody", Check.village(ONES, "", 0, 255).passed(), 255);
        Check.due("where it turns down", Check.village("p90;p90", "010d9").passed(), 0);
        Check.told("Promise 15", "PASSED, as bits.");
        Check.changesNothing("passed()", Check::busy, TurnFeast::passed);
    }
}
