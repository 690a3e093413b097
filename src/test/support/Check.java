/**
 * What the boundary tests share. Each of their tests begins with the sentence of the document that it holds to
 * (told); what is not as due is printed with that sentence.
 */
final class Check {
    static final int LEAST_INT = Integer.MIN_VALUE;
    static final int MOST_INT = Integer.MAX_VALUE;
    static final int NONE = -1, BAD = -2, NOT = -3, FULL = -4;
    static final int NULL = -11, INDEX = -12, CAST = -13, STORE = -14, SIZE = -15;
    static final long BAD_LONG = Long.MIN_VALUE + 2;

    /** The most that the texts can hold: 31 and 47 bytes. */
    static final String EIGHT_HOUSES = "p10;s21;w32;v43;p54;s65;w76;v99";
    static final String EIGHT_GUESTS = "000u0;111d1;222u2;333d3;444u4;555d5;666u6;997d9";

    /** Numbers that no call takes where it tells a small range. */
    static final int[] FAR = {LEAST_INT, LEAST_INT + 1, -256, -1, 1 << 16, 1 << 30, MOST_INT};

    private static int wrong = 0;
    private static int checked = 0;
    private static int checkedBefore = 0;
    private static int sentences = 0;
    private static String sentence = "";

    private Check() {
    }

    interface Act {
        long on(TurnFeast x);
    }

    interface Making {
        TurnFeast make();
    }

    static void told(String where, String words) {
        closeSentence();
        sentences++;
        sentence = where + ": " + words;
    }

    /** A sentence without a check would be a test that cannot fail. */
    private static void closeSentence() {
        if (sentences > 0 && checked == checkedBefore) {
            wrong++;
            System.out.println("nothing was checked of: " + sentence);
        }
        checkedBefore = checked;
    }

    static void due(String call, long got, long want) {
        checked++;
        if (got != want) {
            wrong++;
            System.out.println(sentence + "\n    " + call + " answered " + got + ", due is " + want);
        }
    }

    static void alike(String call, String got, String want) {
        checked++;
        if (!got.equals(want)) {
            wrong++;
            System.out.println(sentence + "\n    " + call + "\n    shows " + got + "\n    due is " + want);
        }
    }

    static void end() {
        closeSentence();
        System.out.println(sentences + " sentences, " + checked + " answers, " + wrong + " not as due");
        if (wrong != 0) {
            System.exit(1);
        }
    }

    static void typeAll(TurnFeast x, int text, String bytes) {
        for (int i = 0; i < bytes.length(); i++) {
            x.type(text, bytes.charAt(i));
        }
    }

    static TurnFeast village(String houses, String guests) {
        TurnFeast x = new TurnFeast();
        typeAll(x, 0, houses);
        typeAll(x, 1, guests);
        return x;
    }

    static TurnFeast village(String houses, String guests, int turned, int empty) {
        TurnFeast x = village(houses, guests);
        x.set(0, turned);
        x.set(1, empty);
        return x;
    }

    static TurnFeast full() {
        return village(EIGHT_HOUSES, EIGHT_GUESTS);
    }

    /** Something of everything, so that a refusal that changes anything shows; the latest FINDING is SIZE. */
    static TurnFeast busy() {
        TurnFeast x = village("s31;p45;w60;v23", "200d0;052u1;993u9;000d0;074d0", 1, 4);
        x.seen(0, 8);
        x.seen(1, 9);
        x.sheet(0, 0, 3);
        x.lay(0, 0, 1, -7);
        x.sheet(1, 1, 2);
        x.lay(1, 1, 0, 999);
        x.sheet(2, 2, 0);
        x.sheet(3, 0, -1);
        return x;
    }

    /** A refused call answers so, and changes nothing; by a FINDING it changes count() 8 to its number alone. */
    static void refused(String call, Making making, Act act, long want) {
        boolean finding = want <= NULL && want >= SIZE;
        refused(call, making, act, want, finding ? (int) (-10 - want) : making.make().count(8));
    }

    static void refused(String call, Act act, long want) {
        refused(call, Check::busy, act, want);
    }

    /** For get, by whose answer one cannot tell the FINDING. */
    static void refused(String call, Making making, Act act, long want, int finding) {
        TurnFeast x = making.make();
        due(call, act.on(x), want);
        due("count(8) behind " + call, x.count(8), finding);
        alike("the state behind " + call, shown(x), shown(making.make()));
    }

    /** A call that only looks. */
    static void changesNothing(String call, Making making, Act act) {
        TurnFeast x = making.make();
        act.on(x);
        due("count(8) behind " + call, x.count(8), making.make().count(8));
        alike("the state behind " + call, shown(x), shown(making.make()));
    }

    /** All that can be seen of an object but count() 8; it takes the object apart. */
    static String shown(TurnFeast x) {
        StringBuilder told = new StringBuilder();
        told.append("digest ").append(x.digest());
        for (int s = 0; s < 4; s++) {
            showSheet(told, x, s);
        }
        told.append(", seen ").append(x.forget());
        told.append(", turned ").append(x.set(0, 0)).append(", empty ").append(x.set(1, 0));
        for (int text = 0; text < 2; text++) {
            told.append(", text");
            for (int n = x.count(2 + text); n > 0; n--) {
                told.append(' ').append(x.fault(text)).append('/').append(x.count(text));
                x.undo(text);
            }
        }
        return told.toString();
    }

    private static void showSheet(StringBuilder told, TurnFeast x, int s) {
        told.append(", sheet");
        for (int form = 0; form < 3; form++) {
            int first = x.get(s, form, 0);
            boolean other = first == LEAST_INT && x.count(8) == 3;
            if (!other) {
                told.append(" form ").append(form);
                showItems(told, x, s, form);
            }
        }
        told.append(" of ").append(x.lose(s));
    }

    private static void showItems(StringBuilder told, TurnFeast x, int s, int form) {
        int item = 0;
        for (int i = 0; i < 60 && item != LEAST_INT; i++) {
            item = x.get(s, form, i);
            told.append(' ').append(item);
        }
    }
}
