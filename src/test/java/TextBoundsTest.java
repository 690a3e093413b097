/** The bounds of the texts, of the row and of promises 1 to 9, sentence by sentence. */
public final class TextBoundsTest {
    private static final String FIGURES = "0123456789";
    private static final int[] MOST_BYTES = {31, 47};
    private static final int[] STRIDE = {4, 6};
    private static final String[] EIGHT = {Check.EIGHT_HOUSES, Check.EIGHT_GUESTS};

    public static void main(String[] args) {
        wholeTexts();
        houseBytes();
        guestBytes();
        faults();
        faultyAsEmpty();
        newObject();
        typing();
        wiping();
        undoing();
        faultCalls();
        houseCalls();
        guestCalls();
        setting();
        rowAt();
        lifeOf512Calls();
        Check.end();
    }

    private static TurnFeast typed(int text, String bytes) {
        TurnFeast x = new TurnFeast();
        Check.typeAll(x, text, bytes);
        return x;
    }

    private static void wholeTexts() {
        for (int text = 0; text < 2; text++) {
            Check.told("What it is / Terms", text == 0 ? "HOUSES are a text of up to 31 bytes (text 0)"
                : "GUESTS are a text of up to 47 bytes (text 1)");
            TurnFeast x = new TurnFeast();
            for (int i = 0; i < MOST_BYTES[text]; i++) {
                Check.due("type " + i, x.type(text, EIGHT[text].charAt(i)), i + 1);
            }
            Check.due("bytes", x.count(2 + text), MOST_BYTES[text]);
            Check.due("one byte more", x.type(text, ';'), Check.FULL);
            Check.due("bytes", x.count(2 + text), MOST_BYTES[text]);
            Check.due("bytes of the other", x.count(3 - text), 0);

            Check.told("What it is / Terms", "8 at most (0 on, by the ROW), with ; between them / 8 at most (0 on)");
            Check.due("things", x.count(text), 8);
            Check.due("fault", x.fault(text), Check.NONE);
            Check.due("the first", text == 0 ? x.house(0, 1) : x.guest(0, 0), text == 0 ? 1 : 0);
            Check.due("the eighth", text == 0 ? x.house(7, 1) : x.guest(7, 0), text == 0 ? 9 : 99);
            Check.due("the ninth", text == 0 ? x.house(8, 1) : x.guest(8, 0), Check.BAD);
            Check.due("one before the first", text == 0 ? x.house(-1, 1) : x.guest(-1, 0), Check.BAD);
            separators(text);
        }
    }

    private static void separators(int text) {
        String one = EIGHT[text].substring(0, STRIDE[text] - 1);
        Check.told("What it is / Terms", "with ; between them");
        Check.due("none at all, twice", typed(text, one + one).fault(text), one.length());
        Check.due("; ahead", typed(text, ";" + one).fault(text), 0);
        Check.due("; behind", typed(text, one + ";").fault(text), one.length() + 1);
        Check.due("; ;", typed(text, one + ";;" + one).fault(text), one.length() + 1);
        Check.due("; between", typed(text, one + ";" + one).fault(text), Check.NONE);
        Check.due("; between two", typed(text, one + ";" + one).count(text), 2);
        for (int n = 1; n <= 8; n++) {
            Check.due(n + " things", typed(text, EIGHT[text].substring(0, n * STRIDE[text] - 1)).count(text), n);
        }
    }

    /** All 256 bytes at one place of the first and of the eighth: those that are told go on, any other is the FAULT. */
    private static void onlyThese(int text, int place, String these) {
        int[] places = {place, 7 * STRIDE[text] + place};
        for (int at : places) {
            for (int b = 0; b < 256; b++) {
                String bytes = EIGHT[text].substring(0, at) + (char) b + EIGHT[text].substring(at + 1);
                boolean goes = these.indexOf(b) >= 0;
                TurnFeast x = typed(text, bytes);
                Check.due("fault with byte " + b + " at " + at, x.fault(text), goes ? Check.NONE : at);
                Check.due("things with byte " + b + " at " + at, x.count(text), goes ? 8 : 0);
            }
        }
    }

    private static void houseBytes() {
        Check.told("What it is", "p (plain), s (salt), w (sweet) or v (pickle)");
        onlyThese(0, 0, "pswv");
        Check.told("What it is", "a figure, its PORTION (1 to 9)");
        onlyThese(0, 1, "123456789");
        Check.told("What it is", "a figure, what it COSTS (0 to 9)");
        onlyThese(0, 2, FIGURES);
        Check.told("What it is", "with ; between them");
        for (int b = 0; b < 256; b++) {
            Check.due("byte " + b, typed(0, "p10" + (char) b + "p10").fault(0), b == ';' ? Check.NONE : 3);
        }
    }

    private static void guestBytes() {
        Check.told("Terms", "two figures, HUNGER (00 to 99)");
        onlyThese(1, 0, FIGURES);
        onlyThese(1, 1, FIGURES);
        for (int hunger = 0; hunger <= 99; hunger++) {
            String bytes = "" + hunger / 10 + hunger % 10 + "0d0";
            Check.due("hunger of " + bytes, typed(1, bytes).guest(0, 0), hunger);
        }
        Check.told("Terms", "a figure 0 to 7, the place in the ROW at which it BEGINS");
        onlyThese(1, 2, "01234567");
        Check.told("Terms", "u (up the ROW, to lesser ones) or d (down)");
        onlyThese(1, 3, "ud");
        Check.told("Terms", "a figure, how many it may TURN down (0 to 9)");
        onlyThese(1, 4, FIGURES);
        Check.told("Terms", "with ; between them");
        for (int b = 0; b < 256; b++) {
            Check.due("byte " + b, typed(1, "000d0" + (char) b + "000d0").fault(1), b == ';' ? Check.NONE : 5);
        }
    }

    private static void faults() {
        for (int text = 0; text < 2; text++) {
            String eight = EIGHT[text];
            Check.told("Terms", "an empty one is well");
            Check.due("fault of a new one", new TurnFeast().fault(text), Check.NONE);
            TurnFeast wiped = typed(text, "x");
            wiped.wipe(text);
            Check.due("fault of one wiped", wiped.fault(text), Check.NONE);
            TurnFeast undone = typed(text, "x");
            undone.undo(text);
            Check.due("fault of one undone", undone.fault(text), Check.NONE);

            Check.told("Terms", "of one that is not ended, its end");
            for (int n = 1; n <= eight.length(); n++) {
                boolean ended = n % STRIDE[text] == STRIDE[text] - 1;
                Check.due("fault of " + n + " bytes", typed(text, eight.substring(0, n)).fault(text),
                    ended ? Check.NONE : n);
            }

            Check.told("Terms", "the place of the first byte with which it cannot go on");
            for (int at = 0; at < eight.length(); at++) {
                String broken = eight.substring(0, at) + "~" + eight.substring(at + 1);
                Check.due("fault of a byte at " + at, typed(text, broken).fault(text), at);
                Check.due("fault of the last byte, " + at, typed(text, broken.substring(0, at + 1)).fault(text), at);
                String twice = broken.substring(0, eight.length() - 1) + "~";
                Check.due("fault of the first of two", typed(text, twice).fault(text), at);
            }

            Check.told("Terms", "here also of the first byte of a ninth");
            TurnFeast x = typed(text, eight);
            Check.due("the ; ahead of a ninth", x.type(text, ';'), Check.FULL);
            Check.due("the first byte of a ninth", x.type(text, text == 0 ? 'p' : '0'), Check.FULL);
            Check.due("no ninth, no fault", x.fault(text), Check.NONE);
            Check.due("still eight", x.count(text), 8);
        }
    }

    private static void faultyAsEmpty() {
        Check.told("Terms", "With a FAULT a text is as if it was empty");
        String[] faulty = {"p", "p1", "p10;", "p10;p10;x", "~", Check.EIGHT_HOUSES.substring(0, 30)};
        for (String houses : faulty) {
            alikeButForBytes(Check.village(houses, "050d1;000u0"), Check.village("", "050d1;000u0"), houses);
        }
        String[] faultyGuests = {"0", "05", "050", "050d", "050d1;", "050d1;0~", "~", Check.EIGHT_GUESTS.substring(0, 46)};
        for (String guests : faultyGuests) {
            alikeButForBytes(Check.village("s31;w22", guests), Check.village("s31;w22", ""), guests);
        }
        TurnFeast x = Check.village("p10;s20", "050d0");
        x.type(0, ';');
        Check.due("houses with a fault", x.count(0), 0);
        Check.due("its bytes stay", x.count(2), 8);
        Check.due("guests stay", x.count(1), 1);
        x.undo(0);
        Check.due("houses again", x.count(0), 2);
        Check.due("fed again", x.gives(0, 1), 2);
        x.type(1, ';');
        Check.due("guests with a fault", x.count(1), 0);
        Check.due("houses stay", x.count(0), 2);
        Check.due("nothing is given", x.all(0, 0), 0);
        x.undo(1);
        Check.due("guests again", x.all(0, 0), 1);
    }

    private static void alikeButForBytes(TurnFeast x, TurnFeast y, String bytes) {
        Check.alike("with " + bytes, asked(x), asked(y));
    }

    private static String asked(TurnFeast x) {
        StringBuilder told = new StringBuilder();
        for (int what : new int[] {0, 1, 4, 5, 6, 7}) {
            told.append(x.count(what)).append(' ');
        }
        told.append(x.poor()).append(' ').append(x.passed()).append(' ').append(x.twice()).append(' ').append(x.ask());
        for (int i = 0; i < 2; i++) {
            int[] each = {x.at(i), x.house(i, 0), x.guest(i, 0), x.all(i, 0), x.all(i, 1), x.price(i), x.live(i, 0),
                x.cook(i, 0), x.began(i), x.season(1, 9, i, 0), x.season(1, 9, i, 1)};
            for (int v : each) {
                told.append(' ').append(v);
            }
            told.append(' ').append(x.road(5, i, 1, 0)).append(' ').append(x.road(5, i, 0, 0));
            for (int g = 0; g < 2; g++) {
                told.append(' ').append(x.gives(g, i)).append(' ').append(x.fast(i, g, 0)).append(' ').append(x.soup(i, g));
                told.append(' ').append(x.fed(i, g)).append(' ').append(x.fed(i, g + 2));
            }
        }
        return told.toString();
    }

    private static void newObject() {
        Check.told("Promise 1", "No houses, no GUESTS; all SHEETS are LOST.");
        TurnFeast x = new TurnFeast();
        Check.due("houses", x.count(0), 0);
        Check.due("guests", x.count(1), 0);
        Check.due("house(0, 0)", x.house(0, 0), Check.BAD);
        Check.due("guest(0, 0)", x.guest(0, 0), Check.BAD);
        for (int s = 0; s < 4; s++) {
            Check.due("lose(" + s + ")", new TurnFeast().lose(s), Check.NULL);
        }
        for (int what = 2; what <= 8; what++) {
            Check.due("count(" + what + ")", new TurnFeast().count(what), 0);
        }
        Check.told("Terms", "TURNED (0, 1; 0 at first)");
        Check.due("TURNED was", new TurnFeast().set(0, 1), 0);
        Check.told("Terms", "EMPTY are HOUSES (bits of 0 to 7; none at first)");
        Check.due("EMPTY was", new TurnFeast().set(1, 255), 0);
        TurnFeast other = new TurnFeast();
        other.type(0, 'p');
        Check.told("Promise 1", "an object knows nothing of another");
        Check.due("bytes of another", new TurnFeast().count(2), 0);
    }

    private static void typing() {
        Check.told("Promise 2", "A byte (0 to 255) comes behind a text: how many.");
        for (int text = 0; text < 2; text++) {
            int it = text;
            TurnFeast x = new TurnFeast();
            Check.due("the least byte", x.type(text, 0), 1);
            Check.due("the greatest byte", x.type(text, 255), 2);
            Check.told("Promise 2", "BAD");
            Check.refused("type(" + text + ", -1)", y -> y.type(it, -1), Check.BAD);
            Check.refused("type(" + text + ", 256)", y -> y.type(it, 256), Check.BAD);
            for (int far : Check.FAR) {
                Check.refused("type(" + text + ", " + far + ")", y -> y.type(it, far), Check.BAD);
                Check.refused("type(" + far + ", 'p')", y -> y.type(far, 'p'), Check.BAD);
            }
            Check.refused("type(2, 'p')", y -> y.type(2, 'p'), Check.BAD);
            Check.told("Promise 2", "FULL");
            Check.refused("type(" + text + ", ';')", Check::full, y -> y.type(it, ';'), Check.FULL);
            Check.refused("type(" + text + ", 0)", Check::full, y -> y.type(it, 0), Check.FULL);
            Check.refused("type(" + text + ", 255)", Check::full, y -> y.type(it, 255), Check.FULL);
            Check.told("Refusals", "the first that fits, in the order told at each act: BAD, .. FULL");
            Check.refused("type(" + text + ", 256) of a full one", Check::full, y -> y.type(it, 256), Check.BAD);
            Check.refused("type(" + text + ", -1) of a full one", Check::full, y -> y.type(it, -1), Check.BAD);
            Check.refused("type(2, 256) of full ones", Check::full, y -> y.type(2, 256), Check.BAD);
            Check.told("Promise 2", "a full text takes a byte again behind undo and wipe");
            TurnFeast z = Check.full();
            Check.due("undo", z.undo(text), MOST_BYTES[text] - 1);
            Check.due("type", z.type(text, '0'), MOST_BYTES[text]);
            Check.due("type full", z.type(text, '0'), Check.FULL);
            z.wipe(text);
            Check.due("type behind wipe", z.type(text, '0'), 1);
        }
    }

    private static void wiping() {
        Check.told("Promise 3", "A text is empty: how many bytes it had.");
        for (int text = 0; text < 2; text++) {
            TurnFeast x = Check.full();
            Check.due("wipe of a full one", x.wipe(text), MOST_BYTES[text]);
            Check.due("wipe of an empty one", x.wipe(text), 0);
            Check.due("bytes", x.count(2 + text), 0);
            Check.due("things", x.count(text), 0);
            Check.due("fault", x.fault(text), Check.NONE);
            Check.due("the other text", x.count(3 - text), MOST_BYTES[1 - text]);
            Check.due("the other things", x.count(1 - text), 8);
            Check.due("wipe of a new one", new TurnFeast().wipe(text), 0);
            Check.due("wipe of one byte", typed(text, "~").wipe(text), 1);
        }
        TurnFeast y = Check.busy();
        y.wipe(0);
        y.wipe(1);
        Check.due("TURNED stays", y.set(0, 0), 1);
        Check.due("EMPTY stays", y.count(6), 4);
        Check.due("SEEN stays", y.count(7), 2);
        Check.due("SHEETS stay", y.get(0, 0, 1), -7);
        Check.told("Promise 3", "BAD");
        Check.refused("wipe(2)", x -> x.wipe(2), Check.BAD);
        for (int far : Check.FAR) {
            Check.refused("wipe(" + far + ")", x -> x.wipe(far), Check.BAD);
        }
    }

    private static void undoing() {
        Check.told("Promise 4", "The last byte of a text is undone: how many are left.");
        for (int text = 0; text < 2; text++) {
            int it = text;
            TurnFeast x = Check.full();
            for (int left = MOST_BYTES[text] - 1; left >= 0; left--) {
                Check.due("undo", x.undo(text), left);
            }
            Check.due("the other text", x.count(3 - text), MOST_BYTES[1 - text]);
            Check.told("Promise 4", "NOT: it is empty");
            Check.due("undo of one that became empty", x.undo(text), Check.NOT);
            Check.due("and again", x.undo(text), Check.NOT);
            Check.refused("undo of a new one", TurnFeast::new, y -> y.undo(it), Check.NOT);
            String other = text == 0 ? Check.EIGHT_GUESTS : Check.EIGHT_HOUSES;
            Check.refused("undo beside a full one", () -> typed(1 - it, other), y -> y.undo(it), Check.NOT);
        }
        Check.told("Promise 4", "BAD");
        Check.refused("undo(2)", x -> x.undo(2), Check.BAD);
        Check.refused("undo(2) of empty ones", TurnFeast::new, x -> x.undo(2), Check.BAD);
        for (int far : Check.FAR) {
            Check.refused("undo(" + far + ")", x -> x.undo(far), Check.BAD);
        }
    }

    private static void faultCalls() {
        Check.told("Promise 5", "The FAULT of a text; NONE.");
        TurnFeast x = Check.village("p10;~", "000d");
        Check.due("fault(0)", x.fault(0), 4);
        Check.due("fault(1)", x.fault(1), 4);
        Check.due("the greatest FAULT of text 0", typed(0, Check.EIGHT_HOUSES.substring(0, 30) + "~").fault(0), 30);
        Check.due("the greatest FAULT of text 1", typed(1, Check.EIGHT_GUESTS.substring(0, 46) + "~").fault(1), 46);
        Check.due("31 bytes of none", typed(0, "~".repeat(31)).fault(0), 0);
        Check.due("47 bytes of none", typed(1, "~".repeat(47)).fault(1), 0);
        Check.changesNothing("fault(0)", Check::busy, y -> y.fault(0));
        Check.told("Promise 5", "BAD");
        Check.refused("fault(2)", y -> y.fault(2), Check.BAD);
        for (int far : Check.FAR) {
            Check.refused("fault(" + far + ")", y -> y.fault(far), Check.BAD);
        }
    }

    private static void houseCalls() {
        Check.told("Promise 6", "What it cooks (what = 0: 0 p, 1 s, 2 w, 3 v), PORTION (1), COSTS (2) of a house.");
        TurnFeast x = Check.full();
        int[][] due = {{0, 1, 0}, {1, 2, 1}, {2, 3, 2}, {3, 4, 3}, {0, 5, 4}, {1, 6, 5}, {2, 7, 6}, {3, 9, 9}};
        for (int h = 0; h < 8; h++) {
            for (int what = 0; what < 3; what++) {
                Check.due("house(" + h + ", " + what + ")", x.house(h, what), due[h][what]);
            }
        }
        x.set(0, 1);
        Check.due("a TURNED row leaves the houses' numbers", x.house(7, 1), 9);
        x.set(1, 255);
        Check.due("an EMPTY house is still told", x.house(7, 1), 9);
        Check.told("Promise 6", "BAD");
        Check.refused("house(0, 3)", y -> y.house(0, 3), Check.BAD);
        Check.refused("house(3, 3)", y -> y.house(3, 3), Check.BAD);
        Check.refused("house(4, 0) of four", y -> y.house(4, 0), Check.BAD);
        Check.refused("house(8, 0) of eight", Check::full, y -> y.house(8, 0), Check.BAD);
        Check.refused("house(0, 0) of none", TurnFeast::new, y -> y.house(0, 0), Check.BAD);
        Check.refused("house(4, 3)", y -> y.house(4, 3), Check.BAD);
        for (int far : Check.FAR) {
            Check.refused("house(" + far + ", 0)", y -> y.house(far, 0), Check.BAD);
            Check.refused("house(0, " + far + ")", y -> y.house(0, far), Check.BAD);
        }
    }

    private static void guestCalls() {
        Check.told("Promise 7", "HUNGER (what = 0), where it BEGINS (1), whether it goes down (2: 1, 0), "
            + "how many it may TURN down (3) of a GUEST.");
        TurnFeast x = Check.full();
        for (int g = 0; g < 8; g++) {
            int[] due = {g == 7 ? 99 : 11 * g, g, g % 2, g == 7 ? 9 : g};
            for (int what = 0; what < 4; what++) {
                Check.due("guest(" + g + ", " + what + ")", x.guest(g, what), due[what]);
            }
        }
        Check.told("Promise 7", "BAD");
        Check.refused("guest(0, 4)", y -> y.guest(0, 4), Check.BAD);
        Check.refused("guest(5, 0) of five", y -> y.guest(5, 0), Check.BAD);
        Check.refused("guest(8, 0) of eight", Check::full, y -> y.guest(8, 0), Check.BAD);
        Check.refused("guest(0, 0) of none", TurnFeast::new, y -> y.guest(0, 0), Check.BAD);
        Check.refused("guest(5, 4)", y -> y.guest(5, 4), Check.BAD);
        for (int far : Check.FAR) {
            Check.refused("guest(" + far + ", 0)", y -> y.guest(far, 0), Check.BAD);
            Check.refused("guest(0, " + far + ")", y -> y.guest(0, far), Check.BAD);
        }
    }

    private static void setting() {
        Check.told("Promise 8", "TURNED (what = 0), EMPTY (1; 0 to 255): what it was.");
        TurnFeast x = new TurnFeast();
        Check.due("set(0, 1)", x.set(0, 1), 0);
        Check.due("set(0, 1)", x.set(0, 1), 1);
        Check.due("set(0, 0)", x.set(0, 0), 1);
        Check.due("set(0, 0)", x.set(0, 0), 0);
        int was = 0;
        for (int bits = 0; bits <= 255; bits++) {
            Check.due("set(1, " + bits + ")", x.set(1, bits), was);
            was = bits;
        }
        Check.due("set(1, 0)", x.set(1, 0), 255);
        Check.due("TURNED is not EMPTY", x.set(0, 0), 0);
        Check.told("Promise 8", "BAD");
        Check.refused("set(0, 2)", y -> y.set(0, 2), Check.BAD);
        Check.refused("set(0, 255)", y -> y.set(0, 255), Check.BAD);
        Check.refused("set(1, 256)", y -> y.set(1, 256), Check.BAD);
        Check.refused("set(2, 0)", y -> y.set(2, 0), Check.BAD);
        Check.refused("set(2, 256)", y -> y.set(2, 256), Check.BAD);
        for (int far : Check.FAR) {
            Check.refused("set(0, " + far + ")", y -> y.set(0, far), Check.BAD);
            Check.refused("set(1, " + far + ")", y -> y.set(1, far), Check.BAD);
            Check.refused("set(" + far + ", 0)", y -> y.set(far, 0), Check.BAD);
        }
    }

    private static void rowAt() {
        Check.told("Promise 9", "The house at a place (0 to 7) of the ROW; NONE.");
        for (int n = 0; n <= 8; n++) {
            TurnFeast x = typed(0, Check.EIGHT_HOUSES.substring(0, Math.max(0, 4 * n - 1)));
            for (int place = 0; place < 8; place++) {
                Check.due(n + " houses, at(" + place + ")", x.at(place), place < n ? place : Check.NONE);
            }
            Check.told("Terms", "TURNED: of the last one first");
            x.set(0, 1);
            for (int place = 0; place < 8; place++) {
                Check.due(n + " houses, turned at(" + place + ")", x.at(place), place < n ? n - 1 - place : Check.NONE);
            }
        }
        TurnFeast y = Check.village("p10;p10", "", 1, 255);
        Check.due("an EMPTY house stands in the ROW", y.at(0), 1);
        Check.typeAll(y, 0, ";p10");
        Check.due("TURNED is for houses that come later, too", y.at(0), 2);
        Check.told("Promise 9", "BAD");
        Check.refused("at(8)", x -> x.at(8), Check.BAD);
        Check.refused("at(8) of eight", Check::full, x -> x.at(8), Check.BAD);
        Check.refused("at(-1) of none", TurnFeast::new, x -> x.at(-1), Check.BAD);
        for (int far : Check.FAR) {
            Check.refused("at(" + far + ")", x -> x.at(far), Check.BAD);
        }
    }

    private static void lifeOf512Calls() {
        Check.told("What it is", "An object is used for at most 512 calls after it has been made");
        TurnFeast x = Check.full();
        for (int call = 79; call <= 510; call++) {
            Check.due("call " + call, x.sheet(call % 4, call % 3, call % 61), call % 61);
        }
        Check.due("call 511", x.house(7, 1), 9);
        Check.due("call 512", x.digest(), Check.full().digest());
    }
}
