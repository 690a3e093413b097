/** One method for each promise of the document: what it asks, its edges and its refusals. */
public final class PromisesTest {
    private static int wrong = 0;
    private static int checked = 0;

    private static final int LEAST_INT = Integer.MIN_VALUE;
    private static final long BAD_LONG = Long.MIN_VALUE + 2;

    /** Worked out by hand; see p10 to p15. */
    private static final String HOUSES = "s31;p45;w60;v23";
    private static final String GUESTS = "200d0;052u1;993u9;000d0;074d0";

    private static void due(String call, long got, long want) {
        checked++;
        if (got != want) {
            wrong++;
            System.out.println(call + " answered " + got + ", due is " + want);
        }
    }

    private static void typeAll(TurnFeast x, int text, String bytes) {
        for (int i = 0; i < bytes.length(); i++) {
            due("type(" + text + ", " + bytes.charAt(i) + ")", x.type(text, bytes.charAt(i)), x.count(2 + text));
        }
    }

    private static TurnFeast village(String houses, String guests) {
        TurnFeast x = new TurnFeast();
        typeAll(x, 0, houses);
        typeAll(x, 1, guests);
        return x;
    }

    public static void main(String[] args) {
        p01();
        p02();
        p03();
        p04();
        p05();
        p06();
        p07();
        p08();
        p09();
        p10();
        p11();
        feeding();
        p12to15();
        p16();
        p17();
        p18();
        p19();
        p20to22();
        p23to25();
        p26();
        p27();
        p28to29();
        p30to31();
        p32();
        p33();
        p34();
        p35();
        System.out.println(checked + " answers, " + wrong + " not as due");
        if (wrong != 0) {
            System.exit(1);
        }
    }

    private static void p01() {
        TurnFeast x = new TurnFeast();
        for (int what = 0; what <= 8; what++) {
            due("new count(" + what + ")", x.count(what), 0);
        }
        due("new set(0, 0)", x.set(0, 0), 0);
        due("new set(1, 0)", x.set(1, 0), 0);
        for (int s = 0; s < 4; s++) {
            due("new lose(" + s + ")", x.lose(s), -11);
        }
        due("NONE", TurnFeast.NONE, -1);
        due("BAD", TurnFeast.BAD, -2);
        due("NOT", TurnFeast.NOT, -3);
        due("FULL", TurnFeast.FULL, -4);
    }

    private static void p02() {
        TurnFeast x = new TurnFeast();
        due("type(-1, 0)", x.type(-1, 0), -2);
        due("type(2, 0)", x.type(2, 0), -2);
        due("type(0, -1)", x.type(0, -1), -2);
        due("type(1, 256)", x.type(1, 256), -2);
        for (int i = 1; i <= 31; i++) {
            due("type(0, 0)", x.type(0, 0), i);
        }
        due("type(0, 0) full", x.type(0, 0), -4);
        due("type(0, 256) full", x.type(0, 256), -2);
        due("count(2) full", x.count(2), 31);
        for (int i = 1; i <= 47; i++) {
            due("type(1, 255)", x.type(1, 255), i);
        }
        due("type(1, 255) full", x.type(1, 255), -4);
        due("count(3) full", x.count(3), 47);
        due("undo(0) full", x.undo(0), 30);
        due("type(0, 9) again", x.type(0, 9), 31);
    }

    private static void p03() {
        TurnFeast x = village("p10", "100d0");
        due("wipe(-1)", x.wipe(-1), -2);
        due("wipe(2)", x.wipe(2), -2);
        due("wipe(1)", x.wipe(1), 5);
        due("guests gone", x.count(1), 0);
        due("houses stay", x.count(0), 1);
        due("wipe(1)", x.wipe(1), 0);
        due("wipe(0)", x.wipe(0), 3);
        due("houses gone", x.count(0), 0);
    }

    private static void p04() {
        TurnFeast x = village("p10", "");
        due("undo(-1)", x.undo(-1), -2);
        due("undo(2)", x.undo(2), -2);
        due("undo(1)", x.undo(1), -3);
        due("undo(0)", x.undo(0), 2);
        due("count(0)", x.count(0), 0);
        due("type(0, '7')", x.type(0, '7'), 3);
        due("house(0, 2)", x.house(0, 2), 7);
        due("undo(0)", x.undo(0), 2);
        due("undo(0)", x.undo(0), 1);
        due("undo(0)", x.undo(0), 0);
        due("undo(0)", x.undo(0), -3);
        due("fault(0)", x.fault(0), -1);
    }

    private static void faultDue(int text, String bytes, int want) {
        TurnFeast x = village(text == 0 ? bytes : "", text == 1 ? bytes : "");
        due("fault of " + bytes, x.fault(text), want);
        if (want >= 0) {
            due("things of " + bytes, x.count(text), 0);
        }
    }

    private static void p05() {
        TurnFeast x = new TurnFeast();
        due("fault(-1)", x.fault(-1), -2);
        due("fault(2)", x.fault(2), -2);
        String[] houses = {"", "p", "P", "p0", "p1", "p:", "p1/", "p1:", "p10", "p99;", "p10,", "p10;s", "p10;s12",
            "p10;w12;v9x", ";", "p10;;", "q10", "u10", "\u00f010"};
        int[] houseFaults = {-1, 1, 0, 1, 2, 1, 2, 2, -1, 4, 3, 5, -1, 10, 0, 4, 0, 0, 0};
        for (int i = 0; i < houses.length; i++) {
            faultDue(0, houses[i], houseFaults[i]);
        }
        String[] guests = {"", "0", "a", "0a", "00", "008", "007", "00/", "000", "000x", "000u", "000D", "000d:",
            "000d9", "000d9;", "000d9.", "000d9;99", "000d9;997u0", "000d9;997u0;997", "0000", ";"};
        int[] guestFaults = {-1, 1, 0, 1, 2, 2, 3, 2, 3, 3, 4, 3, 4, -1, 6, 5, 8, -1, 15, 3, 0};
        for (int i = 0; i < guests.length; i++) {
            faultDue(1, guests[i], guestFaults[i]);
        }
        faultDue(0, "p11;p11;p11;p11;p11;p11;p11;p11", -1);
        faultDue(0, "p11;p11;p11;p11;p11;p11;p11;p1", 30);
        faultDue(1, "000d0;000d0;000d0;000d0;000d0;000d0;000d0;000d0", -1);
        faultDue(1, "000d0;000d0;000d0;000d0;000d0;000d0;000d0;000d", 46);
    }

    private static void p06() {
        TurnFeast x = village("p10;s29;w95;v57", "");
        int[] due = {0, 1, 0, 1, 2, 9, 2, 9, 5, 3, 5, 7};
        for (int i = 0; i < due.length; i++) {
            due("house(" + i / 3 + ", " + i % 3 + ")", x.house(i / 3, i % 3), due[i]);
        }
        due("house(-1, 0)", x.house(-1, 0), -2);
        due("house(4, 0)", x.house(4, 0), -2);
        due("house(0, -1)", x.house(0, -1), -2);
        due("house(0, 3)", x.house(0, 3), -2);
        x.type(0, ';');
        due("house(0, 0) with a fault", x.house(0, 0), -2);
    }

    private static void p07() {
        TurnFeast x = village("", "907u9;083d0");
        int[] due = {90, 7, 0, 9, 8, 3, 1, 0};
        for (int i = 0; i < due.length; i++) {
            due("guest(" + i / 4 + ", " + i % 4 + ")", x.guest(i / 4, i % 4), due[i]);
        }
        due("guest(-1, 0)", x.guest(-1, 0), -2);
        due("guest(2, 0)", x.guest(2, 0), -2);
        due("guest(0, -1)", x.guest(0, -1), -2);
        due("guest(0, 4)", x.guest(0, 4), -2);
        x.undo(1);
        due("guest(0, 0) with a fault", x.guest(0, 0), -2);
    }

    private static void p08() {
        TurnFeast x = new TurnFeast();
        due("set(0, 1)", x.set(0, 1), 0);
        due("set(0, 2)", x.set(0, 2), -2);
        due("set(0, -1)", x.set(0, -1), -2);
        due("set(0, 1)", x.set(0, 1), 1);
        due("set(0, 0)", x.set(0, 0), 1);
        due("set(1, 255)", x.set(1, 255), 0);
        due("set(1, 256)", x.set(1, 256), -2);
        due("set(1, -1)", x.set(1, -1), -2);
        due("set(1, 3)", x.set(1, 3), 255);
        due("set(-1, 0)", x.set(-1, 0), -2);
        due("set(2, 0)", x.set(2, 0), -2);
        due("count(6)", x.count(6), 3);
        due("set(0, 0)", x.set(0, 0), 0);
    }

    private static void p09() {
        TurnFeast x = village("p10;p20;p30", "");
        for (int p = 0; p < 8; p++) {
            due("at(" + p + ")", x.at(p), p < 3 ? p : -1);
        }
        due("at(-1)", x.at(-1), -2);
        due("at(8)", x.at(8), -2);
        x.set(0, 1);
        for (int p = 0; p < 8; p++) {
            due("turned at(" + p + ")", x.at(p), p < 3 ? 2 - p : -1);
        }
        x.wipe(0);
        due("at(0) of none", x.at(0), -1);
    }

    private static void p10() {
        TurnFeast x = village(HOUSES, GUESTS);
        int[][] due = {{3, 6, 6, 2}, {1, 4, 0, 0}, {3, 4, 6, 2}, {0, 0, 0, 0}, {0, 0, 0, 0}};
        for (int g = 0; g < 5; g++) {
            for (int h = 0; h < 4; h++) {
                due("gives(" + g + ", " + h + ")", x.gives(g, h), due[g][h]);
            }
        }
        due("gives(-1, 0)", x.gives(-1, 0), -2);
        due("gives(5, 0)", x.gives(5, 0), -2);
        due("gives(0, -1)", x.gives(0, -1), -2);
        due("gives(0, 4)", x.gives(0, 4), -2);
    }

    private static void fedDue(TurnFeast x, String told, int g, int sleeps, int left, int turns, int doors) {
        int[] due = {sleeps, left, turns, doors};
        for (int what = 0; what < 4; what++) {
            due(told + " fed(" + g + ", " + what + ")", x.fed(g, what), due[what]);
        }
    }

    private static void p11() {
        TurnFeast x = village(HOUSES, GUESTS);
        fedDue(x, "hand", 0, 3, 0, 0, 4);
        fedDue(x, "hand", 1, 0, 0, 1, 3);
        fedDue(x, "hand", 2, -1, 39, 0, 4);
        fedDue(x, "hand", 3, -1, 0, 0, 0);
        fedDue(x, "hand", 4, -1, 7, 0, 0);
        due("fed(-1, 0)", x.fed(-1, 0), -2);
        due("fed(5, 0)", x.fed(5, 0), -2);
        due("fed(0, -1)", x.fed(0, -1), -2);
        due("fed(0, 4)", x.fed(0, 4), -2);
    }

    /** How a guest is fed, rule by rule. */
    private static void feeding() {
        fedDue(village("p50", "050d0"), "just full", 0, 0, 0, 0, 1);
        fedDue(village("p50", "050d1"), "not more than its hunger", 0, 0, 0, 0, 1);
        fedDue(village("p50", "040d1"), "more than its hunger", 0, -1, 4, 1, 1);
        fedDue(village("s30;p30", "070d1"), "salt makes it more", 0, -1, 4, 1, 2);
        fedDue(village("s30;p30", "080d1"), "salt makes it enough", 0, 1, 0, 0, 2);
        fedDue(village("s10;p90;p10", "030d1"), "what is turned down is not eaten", 0, 2, 0, 1, 3);
        due("salt behind one turned down", village("s10;p90;p10", "030d1").gives(0, 2), 2);
        fedDue(village("s10;p10;p90", "990d0"), "salt is for the next alone", 0, -1, 86, 0, 3);
        fedDue(village("s10;s10;p10", "990d0"), "salt behind salt", 0, -1, 92, 0, 3);
        fedDue(village("w10", "020d0"), "half of one is none", 0, 0, 0, 0, 1);
        fedDue(village("w10", "040d0"), "half of three is one", 0, -1, 1, 0, 1);
        fedDue(village("v10", "010d0"), "pickle, but none is left", 0, 0, 0, 0, 1);
        fedDue(village("v10", "020d0"), "pickle", 0, -1, 4, 0, 1);
        fedDue(village("v10", "990d0"), "99 at most", 0, -1, 99, 0, 1);
        fedDue(village("v30", "990d0"), "99 just", 0, -1, 99, 0, 1);
        fedDue(village("v40", "990d0"), "98", 0, -1, 98, 0, 1);
        fedDue(village("p10;p10;p10", "991d0"), "down", 0, -1, 97, 0, 2);
        fedDue(village("p10;p10;p10", "991u0"), "up", 0, -1, 97, 0, 2);
        due("down gives", village("p10;p10;p10", "991d0").gives(0, 2), 1);
        due("up gives", village("p10;p10;p10", "991u0").gives(0, 0), 1);
        fedDue(village("p10;p10", "012u0"), "no such place", 0, -1, 1, 0, 0);
        fedDue(village("", "010u0"), "no houses", 0, -1, 1, 0, 0);
        fedDue(village("p90;p90;p90", "010d2"), "turns down two", 0, 2, 0, 2, 3);
        feedingEmpty();
    }

    private static void feedingEmpty() {
        TurnFeast x = village(HOUSES, GUESTS);
        x.set(1, 1);
        fedDue(x, "no salt from an empty house", 0, -1, 6, 0, 4);
        due("empty gives", x.gives(0, 0), 0);
        due("behind empty gives", x.gives(0, 1), 4);
        x.set(1, 2);
        fedDue(x, "salt past an empty house", 0, -1, 5, 0, 4);
        due("salt past an empty house gives", x.gives(0, 2), 8);
        x.set(1, 4);
        fedDue(x, "nothing to turn down at an empty house", 1, -1, 1, 1, 3);
        x.set(1, 0);
        x.set(0, 1);
        fedDue(x, "turned", 0, 0, 0, 0, 4);
        due("turned gives", x.gives(0, 3), 2);
    }

    private static void p12to15() {
        TurnFeast x = village(HOUSES, GUESTS);
        int[][] due = {{7, 1, -3}, {14, 0, -9}, {12, 0, -12}, {4, 1, 2}};
        for (int h = 0; h < 4; h++) {
            due("all(" + h + ", 0)", x.all(h, 0), due[h][0]);
            due("all(" + h + ", 1)", x.all(h, 1), due[h][1]);
            due("price(" + h + ")", x.price(h), due[h][2]);
        }
        due("all(-1, 0)", x.all(-1, 0), -2);
        due("all(4, 0)", x.all(4, 0), -2);
        due("all(0, -1)", x.all(0, -1), -2);
        due("all(0, 2)", x.all(0, 2), -2);
        due("price(-1)", x.price(-1), -10002);
        due("price(4)", x.price(4), -10002);
        due("poor()", x.poor(), 1);
        due("passed()", x.passed(), 0);
        due("poor() of none", new TurnFeast().poor(), -1);
        due("passed() of none", new TurnFeast().passed(), 0);
        due("poor() of like ones", village("p10;p20;p20", "990d0").poor(), 1);
        due("poor() without guests", village("p10;p20", "").poor(), 0);
        TurnFeast y = village("p10;p10;p10", "010d0");
        due("passed()", y.passed(), 6);
        y.set(0, 1);
        due("passed() turned", y.passed(), 3);
        y.set(1, 4);
        due("passed() by an empty one", y.passed(), 1);
        due("passed() turned down", village("p50;p50", "010d1").passed(), 0);
        due("passed() without guests", village("p10;p10;p10", "").passed(), 7);
        due("passed() without hunger", village("p10", "000d0").passed(), 1);
    }

    private static void planDue(String told, int place, int gives, int gotPlace, int gotGives) {
        due(told + " which", gotPlace, place);
        due(told + " gives", gotGives, gives);
    }

    private static void p16() {
        TurnFeast x = village("p50;p50", "050d0");
        planDue("live(0)", 1, 0, x.live(0, 0), x.live(0, 1));
        planDue("live(1)", 1, 0, x.live(1, 0), x.live(1, 1));
        TurnFeast tales = village("p50;p30", "080d0");
        planDue("live by tales", 1, 5, tales.live(0, 0), tales.live(0, 1));
        TurnFeast none = village("p50;p30", "");
        planDue("live without guests", 0, 0, none.live(1, 0), none.live(1, 1));
        TurnFeast turned = village("p10;p20;p30", "010d0");
        turned.set(0, 1);
        planDue("live turned", 1, 0, turned.live(0, 0), turned.live(0, 1));
        planDue("live turned", 1, 0, turned.live(2, 0), turned.live(2, 1));
        due("live changes nothing", turned.at(0), 2);
        TurnFeast empty = village("p50;p50", "050d0");
        empty.set(1, 1);
        planDue("live empty", 0, 0, empty.live(0, 0), empty.live(0, 1));
        planDue("live by an empty one", 0, 5, empty.live(1, 0), empty.live(1, 1));
        due("live(-1, 0)", x.live(-1, 0), -2);
        due("live(2, 0)", x.live(2, 0), -2);
        due("live(0, -1)", x.live(0, -1), -2);
        due("live(0, 2)", x.live(0, 2), -2);
    }

    private static void p17() {
        TurnFeast x = village("p10;s50", "020d0");
        planDue("cook sweet for a tale", 2, 1, x.cook(0, 0), x.cook(0, 1));
        planDue("cook anything", 0, 1, x.cook(1, 0), x.cook(1, 1));
        TurnFeast none = village("v90", "");
        planDue("cook without guests", 0, 0, none.cook(0, 0), none.cook(0, 1));
        x.set(1, 1);
        planDue("cook empty", 0, 0, x.cook(0, 0), x.cook(0, 1));
        due("cook changes nothing", x.house(0, 0), 0);
        due("cook(-1, 0)", x.cook(-1, 0), -2);
        due("cook(2, 0)", x.cook(2, 0), -2);
        due("cook(0, -1)", x.cook(0, -1), -2);
        due("cook(0, 2)", x.cook(0, 2), -2);
    }

    private static void p18() {
        TurnFeast x = village("p50;p50;p50", "050d0;990d0");
        planDue("fast(0, 0)", 0, 0, x.fast(0, 0, 0), x.fast(0, 0, 1));
        planDue("fast(1, 0)", 1, 1, x.fast(1, 0, 0), x.fast(1, 0, 1));
        planDue("fast(2, 0)", 2, 3, x.fast(2, 0, 0), x.fast(2, 0, 1));
        planDue("fast(2, 1)", -1, -1, x.fast(2, 1, 0), x.fast(2, 1, 1));
        TurnFeast either = village("p30;p30;p90", "120d1");
        planDue("fast, the least bits", 1, 1, either.fast(2, 0, 0), either.fast(2, 0, 1));
        either.set(1, 6);
        planDue("fast in place of the empty ones", 1, 1, either.fast(2, 0, 0), either.fast(2, 0, 1));
        due("fast changes nothing", either.count(6), 6);
        TurnFeast fewer = village("p10;p10;p20;p90", "110d1");
        planDue("fast, fewer before less", 1, 4, fewer.fast(3, 0, 0), fewer.fast(3, 0, 1));
        due("fast(-1, 0, 0)", x.fast(-1, 0, 0), -2);
        due("fast(3, 0, 0)", x.fast(3, 0, 0), -2);
        due("fast(0, -1, 0)", x.fast(0, -1, 0), -2);
        due("fast(0, 2, 0)", x.fast(0, 2, 0), -2);
        due("fast(0, 0, -1)", x.fast(0, 0, -1), -2);
        due("fast(0, 0, 2)", x.fast(0, 0, 2), -2);
    }

    private static void p19() {
        TurnFeast x = village("p50;p50", "070d0;990d0");
        due("soup(0, 0)", x.soup(0, 0), 7);
        due("soup(1, 0)", x.soup(1, 0), 2);
        due("soup(0, 1)", x.soup(0, 1), -1);
        due("soup, the most", village("p50", "090d0").soup(0, 0), 9);
        due("soup, the least", village("p50", "010d0").soup(0, 0), 1);
        due("soup changes nothing", x.house(0, 1), 5);
        x.set(1, 1);
        due("soup of an empty house", x.soup(0, 0), -1);
        due("soup(-1, 0)", x.soup(-1, 0), -2);
        due("soup(2, 0)", x.soup(2, 0), -2);
        due("soup(0, -1)", x.soup(0, -1), -2);
        due("soup(0, 2)", x.soup(0, 2), -2);
    }

    private static void p20to22() {
        TurnFeast x = new TurnFeast();
        due("seen(-1, 0)", x.seen(-1, 0), -2);
        due("seen(8, 0)", x.seen(8, 0), -2);
        due("seen(0, -1)", x.seen(0, -1), -2);
        due("seen(0, 1000)", x.seen(0, 1000), -2);
        for (int i = 1; i <= 8; i++) {
            due("seen(7, 999)", x.seen(7, 999), i);
        }
        due("seen(0, 0) full", x.seen(0, 0), -4);
        due("seen(8, 0) full", x.seen(8, 0), -2);
        due("count(7)", x.count(7), 8);
        due("forget()", x.forget(), 8);
        due("forget()", x.forget(), 0);
        due("count(7)", x.count(7), 0);
        reading(x);
    }

    private static void reading(TurnFeast x) {
        due("read(-1)", x.read(-1), -2);
        due("read(4)", x.read(4), -2);
        due("count(8) by BAD", x.count(8), 0);
        due("read(0) lost", x.read(0), -11);
        due("count(8) by NULL", x.count(8), 1);
        x.sheet(0, 2, 0);
        due("read(0) of no items", x.read(0), 0);
        x.sheet(0, 2, 5);
        x.lay(0, 2, 1, 999);
        due("read(0) as many as are whole", x.read(0), 2);
        due("count(7) read", x.count(7), 2);
        x.forget();
        x.sheet(0, 2, 6);
        x.lay(0, 2, 3, 1000);
        due("read(0) as long as each may be", x.read(0), 1);
        x.lay(0, 2, 3, -1);
        x.forget();
        due("read(0) less than 0", x.read(0), 1);
        x.lay(0, 2, 0, 8);
        x.forget();
        due("read(0) of no such house", x.read(0), 0);
        x.sheet(0, 2, 2);
        due("read(0) of just one", x.read(0), 1);
        x.forget();
        x.sheet(3, 0, 60);
        due("read(3) 8 at most", x.read(3), 8);
        due("count(7) 8 at most", x.count(7), 8);
    }

    private static void p23to25() {
        TurnFeast x = village("p30;p40", "030d0;070d0;041d0");
        due("twice() of nothing seen", x.twice(), 7);
        due("began(0) of nothing seen", x.began(0), 65535);
        due("ask() of like ones", x.ask(), 0);
        x.seen(0, 9);
        due("twice()", x.twice(), 3);
        due("began(2)", x.began(2), 3);
        due("ask()", x.ask(), 1);
        x.seen(1, 12);
        due("twice() of two", x.twice(), 2);
        due("began(2) of two", x.began(2), 0);
        due("ask() of one guest", x.ask(), 0);
        x.forget();
        x.seen(0, 9);
        x.seen(1, 5);
        due("began(2) down", x.began(2), 2);
        due("twice() of no guest", x.twice(), 0);
        due("ask() of no guest", x.ask(), 0);
        x.forget();
        x.seen(2, 0);
        due("twice() by a house that there is not", x.twice(), 0);
        due("began(0) by a house that there is not", x.began(0), 0);
        x.type(0, ';');
        due("ask() of no houses", x.ask(), -1);
        x.forget();
        due("twice() of no houses", x.twice(), 7);
        x.undo(0);
        x.sheet(0, 1, 4);
        int[] told = {0, 9, 1, 12};
        for (int i = 0; i < 4; i++) {
            x.lay(0, 1, i, told[i]);
        }
        due("read(0)", x.read(0), 2);
        due("twice() of what was read", x.twice(), 2);
        due("began(-1)", x.began(-1), -2);
        due("began(3)", x.began(3), -2);
        due("twice() of no guests", new TurnFeast().twice(), 0);
    }

    private static void roadDue(TurnFeast x, int c, int much, long above, long below) {
        String call = "road(" + c + ", 0, " + much;
        due(call + ", 0)", x.road(c, 0, much, 0), above);
        due(call + ", 1)", x.road(c, 0, much, 1), below);
    }

    private static void p26() {
        TurnFeast x = village("p10", "010d0;010d0");
        roadDue(x, 8, 0, 1, 1);
        roadDue(x, 8, 1, 3, 4);
        roadDue(x, 8, 2, 1, 4);
        roadDue(x, 8, 3, 0, 1);
        roadDue(x, 8, 999, 0, 1);
        roadDue(x, 0, 0, 1, 1);
        roadDue(x, 0, 1, 0, 1);
        roadDue(x, 16, 2, 1, 1);
        roadDue(x, 5, 1, 135, 256);
        roadDue(village("p10", ""), 5, 0, 1, 1);
        roadDue(village("p10", ""), 5, 1, 0, 1);
        roadDue(village("p40;p10", "040d0;040d0;041d0"), 8, 4, 3, 4);
        TurnFeast eight = village("s90;p90", "990d0;990d0;990d0;990d0;990d0;990d0;990d0;990d0");
        roadDue(eight, 1, 1, 1732076671L, 4294967296L);
        due("most of all", eight.road(1, 1, 88, 0), 1);
        due("more than all", eight.road(1, 1, 89, 0), 0);
        due("road(-1, 0, 0, 0)", x.road(-1, 0, 0, 0), BAD_LONG);
        due("road(17, 0, 0, 0)", x.road(17, 0, 0, 0), BAD_LONG);
        due("road(0, -1, 0, 0)", x.road(0, -1, 0, 0), BAD_LONG);
        due("road(0, 1, 0, 0)", x.road(0, 1, 0, 0), BAD_LONG);
        due("road(0, 0, -1, 0)", x.road(0, 0, -1, 0), BAD_LONG);
        due("road(0, 0, 1000, 0)", x.road(0, 0, 1000, 0), BAD_LONG);
        due("road(0, 0, 0, -1)", x.road(0, 0, 0, -1), BAD_LONG);
        due("road(0, 0, 0, 2)", x.road(0, 0, 0, 2), BAD_LONG);
    }

    private static void p27() {
        TurnFeast x = village("p90", "030d0;500d0");
        due("season(0, 1, 0, 0)", x.season(0, 1, 0, 0), 3);
        due("season(0, 1, 0, 1)", x.season(0, 1, 0, 1), 1);
        due("season(-1, 1, 0, 0)", x.season(-1, 1, 0, 0), 9);
        due("season(-1, 1, 0, 1)", x.season(-1, 1, 0, 1), 0);
        TurnFeast one = village("p90", "030d0");
        due("season of one guest", one.season(LEAST_INT, 99, 0, 0), 297);
        due("season of no guest", village("p90", "").season(1, 99, 0, 0), 0);
        due("season(0, 0, 0, 0)", x.season(0, 0, 0, 0), -2);
        due("season(0, 100, 0, 0)", x.season(0, 100, 0, 0), -2);
        due("season(0, 1, -1, 0)", x.season(0, 1, -1, 0), -2);
        due("season(0, 1, 1, 0)", x.season(0, 1, 1, 0), -2);
        due("season(0, 1, 0, -1)", x.season(0, 1, 0, -1), -2);
        due("season(0, 1, 0, 2)", x.season(0, 1, 0, 2), -2);
    }

    private static void p28to29() {
        TurnFeast x = new TurnFeast();
        due("sheet(-1, 0, 0)", x.sheet(-1, 0, 0), -2);
        due("sheet(4, 0, 0)", x.sheet(4, 0, 0), -2);
        due("sheet(0, -1, 0)", x.sheet(0, -1, 0), -2);
        due("sheet(0, 3, 0)", x.sheet(0, 3, 0), -2);
        due("sheet(0, 0, 61)", x.sheet(0, 0, 61), -2);
        due("sheet(4, 0, -1)", x.sheet(4, 0, -1), -2);
        due("count(8)", x.count(8), 0);
        due("sheet(0, 0, -1)", x.sheet(0, 0, -1), -15);
        due("count(8)", x.count(8), 5);
        due("lose(0)", x.lose(0), -11);
        due("sheet(0, 2, 60)", x.sheet(0, 2, 60), 60);
        due("lay(0, 2, 59, 7)", x.lay(0, 2, 59, 7), 1);
        due("sheet(0, 0, -1)", x.sheet(0, 0, LEAST_INT), -15);
        due("get(0, 2, 59)", x.get(0, 2, 59), 7);
        due("sheet(0, 2, 60)", x.sheet(0, 2, 60), 60);
        due("get(0, 2, 59) anew", x.get(0, 2, 59), 0);
        due("sheet(0, 0, 0)", x.sheet(0, 0, 0), 0);
        due("lose(0)", x.lose(0), 0);
        due("lose(0)", x.lose(0), -11);
        due("count(8)", x.count(8), 1);
        due("lose(-1)", x.lose(-1), -2);
        due("lose(4)", x.lose(4), -2);
        due("sheet(3, 1, 9)", x.sheet(3, 1, 9), 9);
        due("lose(3)", x.lose(3), 9);
    }

    private static void p30to31() {
        TurnFeast x = new TurnFeast();
        due("lay(4, 0, 0, 0)", x.lay(4, 0, 0, 0), -2);
        due("lay(-1, 0, 0, 0)", x.lay(-1, 0, 0, 0), -2);
        due("lay(0, 3, 0, 0)", x.lay(0, 3, 0, 0), -2);
        due("lay(0, -1, 0, 0)", x.lay(0, -1, 0, 0), -2);
        due("get(4, 0, 0)", x.get(4, 0, 0), LEAST_INT);
        due("get(0, 3, 0)", x.get(0, 3, 0), LEAST_INT);
        due("count(8) by BAD", x.count(8), 0);
        due("lay(0, 0, 0, 0) lost", x.lay(0, 0, -1, 0), -11);
        x.sheet(0, 0, 2);
        x.sheet(1, 1, 2);
        x.sheet(2, 2, 2);
        due("lay cast before index", x.lay(0, 1, 2, 0), -13);
        due("lay index", x.lay(0, 0, 2, 0), -12);
        due("lay index", x.lay(0, 0, -1, 0), -12);
        due("get lost", x.get(3, 0, 0), LEAST_INT);
        due("count(8) by NULL", x.count(8), 1);
        due("get cast", x.get(0, 2, 5), LEAST_INT);
        due("count(8) by CAST", x.count(8), 3);
        due("get index", x.get(0, 0, -1), LEAST_INT);
        due("count(8) by INDEX", x.count(8), 2);
        due("get item", x.get(0, 0, 1), 0);
        due("count(8) stays", x.count(8), 2);
        int[] values = {0, 127, 128, 255, 256, 32767, 32768, 65535, 65536, -1, -129, LEAST_INT};
        for (int v : values) {
            for (int form = 0; form <= 2; form++) {
                due("lay", x.lay(form, form, 1, v), 1);
                due("get " + v + " of form " + form, x.get(form, form, 1), form == 0 ? (byte) v : form == 1 ? (short) v : v);
                due("the other item", x.get(form, form, 0), 0);
            }
        }
    }

    private static void itemsDue(TurnFeast x, String told, int s, int form, int... due) {
        for (int i = 0; i < due.length; i++) {
            due(told + " item " + i, x.get(s, form, i), due[i]);
        }
    }

    private static void p32() {
        TurnFeast x = new TurnFeast();
        due("copy(4, 0, 0, 0, 0)", x.copy(4, 0, 0, 0, 0), -2);
        due("copy(0, 0, -1, 0, 0)", x.copy(0, 0, -1, 0, 0), -2);
        due("copy lost", x.copy(0, -1, 1, 0, 0), -11);
        x.sheet(0, 2, 5);
        due("copy to lost", x.copy(0, 0, 1, 0, 0), -11);
        due("copy from lost", x.copy(1, 0, 0, 0, 0), -11);
        x.sheet(1, 2, 3);
        x.sheet(2, 1, 3);
        due("copy store before index", x.copy(0, -1, 2, 0, 1), -14);
        int[][] none = {{-1, 0, 1}, {0, -1, 1}, {0, 0, -1}, {0, 0, 4}, {5, 0, 1}, {3, 0, 3}, {0, 3, 1}, {6, 0, 0},
            {0, 4, 0}, {Integer.MAX_VALUE, 0, 1}, {1, 1, Integer.MAX_VALUE}, {0, Integer.MAX_VALUE, 3}};
        for (int[] q : none) {
            due("copy index " + q[0] + " " + q[1] + " " + q[2], x.copy(0, q[0], 1, q[1], q[2]), -12);
        }
        for (int i = 0; i < 5; i++) {
            x.lay(0, 2, i, 10 + i);
        }
        due("copy none at the ends", x.copy(0, 5, 1, 3, 0), 1);
        due("copy", x.copy(0, 3, 1, 1, 2), 1);
        itemsDue(x, "copied", 1, 2, 0, 13, 14);
        due("copy up within", x.copy(0, 0, 0, 1, 4), 1);
        itemsDue(x, "copied up", 0, 2, 10, 10, 11, 12, 13);
        due("copy down within", x.copy(0, 1, 0, 0, 4), 1);
        itemsDue(x, "copied down", 0, 2, 10, 11, 12, 13, 13);
        due("copy whole", x.copy(0, 0, 0, 0, 5), 1);
        itemsDue(x, "copied whole", 0, 2, 10, 11, 12, 13, 13);
    }

    private static void p33() {
        TurnFeast x = village(HOUSES, GUESTS);
        due("write(0, 0) lost", x.write(0, 0), -11);
        due("write(2, 0)", x.write(2, 0), -2);
        due("write(-1, 0)", x.write(-1, 0), -2);
        due("write(0, 4)", x.write(0, 4), -2);
        due("write(0, -1)", x.write(0, -1), -2);
        x.sheet(0, 0, 6);
        x.lay(0, 0, 5, 9);
        x.lay(0, 0, 4, 8);
        due("write(0, 0)", x.write(0, 0), 4);
        itemsDue(x, "given", 0, 0, 7, 14, 12, 4, 8, 9);
        due("write(1, 0)", x.write(1, 0), 4);
        itemsDue(x, "tales", 0, 0, 1, 0, 0, 1, 8, 9);
        x.sheet(1, 1, 2);
        due("write(0, 1)", x.write(0, 1), 2);
        itemsDue(x, "few items", 1, 1, 7, 14);
        x.sheet(2, 2, 0);
        due("write(0, 2)", x.write(0, 2), 0);
        x.wipe(0);
        due("write(0, 0) of no houses", x.write(0, 0), 0);
        itemsDue(x, "no houses", 0, 0, 1, 0, 0, 1);
    }

    private static void p34() {
        TurnFeast x = village(HOUSES, GUESTS);
        x.seen(1, 1);
        x.set(1, 128);
        int[] due = {4, 5, 15, 29, 37, 2, 128, 1, 0};
        for (int what = 0; what <= 8; what++) {
            due("count(" + what + ")", x.count(what), due[what]);
        }
        due("count(-1)", x.count(-1), -2);
        due("count(9)", x.count(9), -2);
        x.type(0, 'x');
        int[] faulty = {0, 5, 16, 29, 0, 0, 128, 1, 0};
        for (int what = 0; what <= 8; what++) {
            due("faulty count(" + what + ")", x.count(what), faulty[what]);
        }
    }

    private static void p35() {
        TurnFeast x = new TurnFeast();
        long h = 17;
        for (int i = 0; i < 8; i++) {
            h = 31 * h;
        }
        long[] rest = {-1, -1, -1, 0, 0, -1};
        for (long v : rest) {
            h = 31 * h + v;
        }
        due("digest() of a new object", x.digest(), h);
        digestDue(village(HOUSES, GUESTS));
        digestDue(village(HOUSES, ""));
        digestDue(village("", GUESTS));
        TurnFeast y = village(HOUSES, GUESTS);
        y.set(0, 1);
        y.set(1, 2);
        y.seen(0, 10);
        y.lose(0);
        digestDue(y);
        due("count(8) is not in it", y.count(8), 1);
    }

    private static void digestDue(TurnFeast x) {
        long h = 17;
        for (int what = 0; what <= 7; what++) {
            h = 31 * h + x.count(what);
        }
        h = 31 * (31 * h + x.fault(0)) + x.fault(1);
        for (int it = 0; it < x.count(0); it++) {
            long[] each = {x.house(it, 0), x.house(it, 1), x.house(it, 2), x.at(it), x.all(it, 0), x.all(it, 1),
                x.price(it), x.live(it, 0), x.live(it, 1), x.cook(it, 0), x.cook(it, 1), x.fast(it, 0, 0),
                x.fast(it, 0, 1), x.soup(it, 0), x.road(5, it, 9, 0), x.road(5, it, 9, 1), x.season(7, 30, it, 0),
                x.season(7, 30, it, 1)};
            for (long v : each) {
                h = 31 * h + v;
            }
        }
        for (int g = 0; g < x.count(1); g++) {
            for (int what = 0; what < 8; what++) {
                h = 31 * h + (what < 4 ? x.guest(g, what) : x.fed(g, what - 4));
            }
            h = 31 * h + x.began(g);
            for (int it = 0; it < x.count(0); it++) {
                h = 31 * h + x.gives(g, it);
            }
        }
        h = 31 * (31 * h + x.poor()) + x.passed();
        h = 31 * (31 * h + x.twice()) + x.ask();
        due("digest()", x.digest(), h);
    }
}
