import java.util.Arrays;

/** What bounds the riddles behind '==== 3.': sacks, grains, values, collectors; and what is KEPT, UNDONE, CHECKED. */
public final class RiddleBounds extends Bench {
    public static void main(String[] args) {
        ship();
        shipLeastBits();
        mule();
        muleBest();
        marks();
        marksValues();
        franked();
        exchange();
        exchangeInRings();
        exchangeRows();
        kept();
        undone();
        undoneByNumbers();
        check();
        finish();
    }

    private static int[] times(int many, int value) {
        int[] values = new int[many];
        Arrays.fill(values, value);
        return values;
    }

    private static int[] with(int[] values, int at, int value) {
        values[at] = value;
        return values;
    }

    private static int ship(int what, int... sacks) {
        HomesickStamps x = new HomesickStamps();
        bytes(x, sacks);
        int answer = x.ship(sacks.length, what);
        due("count(7)", x.count(7), answer == -1 ? (sacks.length + 19) / 20 * 20 : 0);
        return answer;
    }

    private static void ship() {
        sentence("A SHIP: 1 to 10 sacks, each so heavy (0 to 255), each to the left or the right of the keel: the least"
            + " by which it lists");
        due("one of 0", ship(0, 0), 0);
        due("one of 255", ship(0, 255), 255);
        due("one of 128", ship(0, 128), 128);
        due("two of 255", ship(0, 255, 255), 0);
        due("255 and 0", ship(0, 255, 0), 255);
        due("ten of 255", ship(0, times(10, 255)), 0);
        due("nine of 255", ship(0, times(9, 255)), 255);
        due("ten, the last 254", ship(0, with(times(10, 255), 9, 254)), 1);
        due("ten, the last counts", ship(0, 1, 1, 1, 1, 1, 1, 1, 1, 1, 9), 0);
        due("nine of these", ship(0, 1, 1, 1, 1, 1, 1, 1, 1, 1), 1);
        due("eleven", ship(0, times(11, 1)), -1);
        HomesickStamps x = new HomesickStamps();
        due("none on the tape", x.ship(1, 0), -1);
        bytes(x, 7);
        due("none", x.ship(0, 0), -1);
        due("count(7)", x.count(7), 20);
        due("one", x.ship(1, 0), 7);
    }

    private static void shipLeastBits() {
        sentence("the sacks to the left (least bits; the first one to the left)");
        due("one", ship(1, 9), 1);
        due("one of 0", ship(1, 0), 1);
        due("two of 0", ship(1, 0, 0), 1);
        due("1 2 3", ship(1, 1, 2, 3), 3);
        due("3 2 1", ship(1, 3, 2, 1), 1);
        // 3 alone to the left would be less bits, but then the first one is to the right
        due("1 3 2", ship(1, 1, 3, 2), 5);
        due("1 1 1 1", ship(1, 1, 1, 1, 1), 3);
        due("ten of 0", ship(1, times(10, 0)), 1);
        due("ten of 255", ship(1, times(10, 255)), 31);
        due("the tenth to the left", ship(1, 1, 100, 100, 100, 100, 100, 100, 100, 100, 1), 1 + 2 + 4 + 8 + 16);
        due("all of 1 but the last", ship(1, 1, 1, 1, 1, 1, 1, 1, 1, 1, 9), 511);
    }

    private static int mule(int what, int much, int... grains) {
        HomesickStamps x = new HomesickStamps();
        bytes(x, grains);
        int answer = x.mule(grains.length, much, what);
        due("count(7)", x.count(7), answer == -1 ? (grains.length + 19) / 20 * 20 : 0);
        return answer;
    }

    private static void mule() {
        sentence("A MULE: 1 to 12 STAMPS of so many grains (0 to 255): the fewest that pull so much at least (0 to"
            + " 3060)");
        int[] want = {12, 4095, 3060};
        int[] none = {0, 0, 0};
        for (int what = 0; what <= 2; what++) {
            due("3060 of twelve", mule(what, 3060, times(12, 255)), want[what]);
            due("3060 of less", mule(what, 3060, with(times(12, 255), 11, 254)), -2);
            due("3059 of less", mule(what, 3059, with(times(12, 255), 11, 254)), want[what] - (what == 2 ? 1 : 0));
            due("3061", mule(what, 3061, times(12, 255)), -1);
            due("-1", mule(what, -1, times(12, 255)), -1);
            due("0", mule(what, 0, times(12, 255)), none[what]);
            due("0 of 0", mule(what, 0, 0), none[what]);
            due("1 of 0", mule(what, 1, 0), -2);
        }
        due("255 of one", mule(1, 255, 255), 1);
        due("256 of one", mule(1, 256, 255), -2);
        due("the twelfth alone", mule(1, 200, with(times(12, 1), 11, 200)), 2048);
        due("thirteen", mule(1, 1, times(13, 1)), -1);
        HomesickStamps x = new HomesickStamps();
        due("none on the tape", x.mule(1, 0, 0), -1);
        bytes(x, 7);
        due("none", x.mule(0, 0, 0), -1);
        due("count(7)", x.count(7), 20);
        due("one", x.mule(1, 7, 0), 1);
    }

    private static void muleBest() {
        sentence("of like ones the least in grains, then the least bits");
        due("fewest", mule(1, 6, 3, 3, 9), 4);
        due("at least, just so", mule(1, 9, 3, 3, 9), 4);
        due("one more is too much", mule(1, 10, 3, 3, 9), 5);
        due("least in grains", mule(1, 5, 9, 7, 5, 6), 4);
        due("least in grains of two", mule(1, 11, 9, 7, 5, 6), 4 + 8);
        due("least in grains of two", mule(2, 10, 9, 7, 5, 6), 11);
        due("least bits", mule(1, 5, 6, 6, 6), 1);
        due("least bits of two", mule(1, 12, 6, 6, 6), 3);
        // 3 and 7, or 4 and 6
        due("least bits of like sums", mule(1, 10, 4, 3, 7, 6), 2 + 4);
    }

    private static int marks(int k, int... values) {
        HomesickStamps x = new HomesickStamps();
        bytes(x, values);
        int answer = x.marks(values.length, k);
        due("count(7)", x.count(7), answer == -1 ? (values.length + 19) / 20 * 20 : 0);
        return answer;
    }

    private static void marks() {
        sentence("at most k (1 to 6) on a letter: up to which value all from 1 on can be franked just so");
        due("k 1", marks(1, 1), 1);
        due("k 6", marks(6, 1), 6);
        due("k 0", marks(0, 1), -1);
        due("k 7", marks(7, 1), -1);
        due("k 5", marks(5, 1, 6), 10);
        due("k 6", marks(6, 1, 6), 16);
        due("k 1 of five", marks(1, 5, 4, 3, 2, 1), 5);
        due("k 6 of five", marks(6, 1, 2, 3, 4, 5), 30);
        due("not 1", marks(6, 2, 3, 4, 5, 6), 0);
        due("one value again", marks(3, 1, 1, 1, 1, 1), 3);
    }

    private static void marksValues() {
        sentence("MARKS: with stamps of 1 to 5 values (1 to 100, as many of each as one likes)");
        due("1", marks(2, 1), 2);
        due("100", marks(2, 100), 0);
        due("0", marks(2, 0), -2);
        due("101", marks(2, 101), -2);
        due("255", marks(2, 255), -2);
        due("the fifth is 100", marks(6, 1, 1, 1, 1, 100), 6);
        due("the fifth is 0", marks(6, 1, 2, 3, 4, 0), -2);
        due("the fifth is 101", marks(6, 1, 2, 3, 4, 101), -2);
        due("six values", marks(6, 1, 2, 3, 4, 5, 6), -1);
        HomesickStamps x = new HomesickStamps();
        due("none on the tape", x.marks(1, 1), -1);
        bytes(x, 1, 2, 3, 4, 5, 0);
        due("no values", x.marks(0, 1), -1);
        due("six", x.marks(6, 1), -1);
        due("count(7)", x.count(7), 20);
        due("five", x.marks(5, 1), 5);
        due("count(7)", x.count(7), 0);
    }

    private static int franked(int value, int... values) {
        HomesickStamps x = new HomesickStamps();
        bytes(x, values);
        int answer = x.franked(values.length, value);
        due("count(7)", x.count(7), answer == -1 ? (values.length + 19) / 20 * 20 : 0);
        return answer;
    }

    private static void franked() {
        sentence("the fewest stamps (any number) for one value (1 to 600)");
        due("1", franked(1, 1), 1);
        due("600 by 1", franked(600, 1), 600);
        due("600 by 100", franked(600, 100), 6);
        due("594 by five", franked(594, 95, 96, 97, 98, 99), 6);
        due("600 by five", franked(600, 95, 96, 97, 98, 99), -3);
        due("599 by 100", franked(599, 100), -3);
        due("0", franked(0, 1), -1);
        due("601", franked(601, 1), -1);
        due("1 by 2", franked(1, 2), -3);
        due("2 by 2", franked(2, 2), 1);
        due("99 by 100", franked(99, 100), -3);
        due("100 by 100", franked(100, 100), 1);
        due("12 by 1 5 6 9", franked(12, 1, 5, 6, 9), 2);
        due("0 among them", franked(600, 1, 0), -2);
        due("101 among them", franked(600, 1, 101), -2);
        due("six values", franked(6, 1, 2, 3, 4, 5, 6), -1);
        HomesickStamps x = new HomesickStamps();
        due("none on the tape", x.franked(1, 1), -1);
        bytes(x, 1);
        due("no values", x.franked(0, 1), -1);
        due("count(7)", x.count(7), 20);
    }

    /** Rows by which each likes the next one's stamp best. */
    private static int[] ringOf(int n) {
        int[] rows = new int[n * n];
        for (int who = 0; who < n; who++) {
            for (int i = 0; i < n; i++) {
                rows[who * n + i] = (who + 1 + i) % n;
            }
        }
        return rows;
    }

    private static void exchange() {
        sentence("EXCHANGE: 2 to 6 collectors, each has one stamp and likes those of others in a row (bytes, the best"
            + " first, his own among them)");
        for (int n = 2; n <= 6; n++) {
            for (int who = 0; who < n; who++) {
                HomesickStamps x = new HomesickStamps();
                bytes(x, ringOf(n));
                due("exchange(" + n + ", -1)", x.exchange(n, -1), -1);
                due("exchange(" + n + ", " + n + ")", x.exchange(n, n), -1);
                due("count(7)", x.count(7), n < 5 ? 20 : 40);
                due("exchange(" + n + ", " + who + ")", x.exchange(n, who), (who + 1) % n);
                due("count(7)", x.count(7), 0);
            }
        }
        HomesickStamps x = new HomesickStamps();
        bytes(x, ringOf(7));
        due("exchange(7, 0)", x.exchange(7, 0), -1);
        due("exchange(1, 0)", x.exchange(1, 0), -1);
        due("exchange(0, 0)", x.exchange(0, 0), -1);
        due("exchange(-2, 0)", x.exchange(-2, 0), -1);
        due("count(7)", x.count(7), 60);
        x.check(0);
        // 16 bytes of 20 are enough for four, not for five
        bytes(x, ringOf(4));
        due("exchange(5, 0)", x.exchange(5, 0), -1);
        due("count(7)", x.count(7), 20);
        due("exchange(4, 3)", x.exchange(4, 3), 0);
        due("exchange(2, 0) of none", x.exchange(2, 0), -1);
    }

    private static void exchangeInRings() {
        sentence("they change in rings, each pointing to the one whose stamp he likes best of those left, till all are"
            + " gone: whose stamp each gets.");
        // 0 and 1 change; 2 likes theirs best, then 5's, who likes 0's, then 2's; 3 and 4 like only what is gone
        int[] rows = {1, 0, 2, 3, 4, 5, 0, 1, 2, 3, 4, 5, 0, 1, 5, 2, 3, 4, 0, 1, 2, 5, 3, 4, 5, 2, 1, 0, 4, 3,
            0, 2, 1, 3, 4, 5};
        int[] got = {1, 0, 5, 3, 4, 2};
        // all keep their own
        int[] own = {0, 1, 2, 0, 1, 2, 0, 1, 2};
        // 1 and 2 change, so that 0 keeps his own in the end, though he points at them
        int[] last = {1, 2, 0, 2, 1, 0, 1, 2, 0};
        int[] gotLast = {0, 2, 1};
        // 3 and 2 change, then 1, who liked 3's, and 0, who liked 2's, do
        int[] pairs = {2, 1, 0, 3, 3, 0, 1, 2, 3, 0, 1, 2, 2, 1, 0, 3};
        int[] gotPairs = {1, 0, 3, 2};
        for (int who = 0; who < 6; who++) {
            HomesickStamps x = new HomesickStamps();
            bytes(x, rows);
            due("exchange(6, " + who + ")", x.exchange(6, who), got[who]);
            if (who < 4) {
                bytes(x, pairs);
                due("exchange(4, " + who + ")", x.exchange(4, who), gotPairs[who]);
            }
            if (who < 3) {
                bytes(x, last);
                due("exchange(3, " + who + ")", x.exchange(3, who), gotLast[who]);
                bytes(x, own);
                due("exchange(3, " + who + ")", x.exchange(3, who), who);
            }
        }
    }

    private static void exchangeRows() {
        sentence("-2: a row that does not name each just once");
        int[][] wrong = {{1, 1, 0, 1}, {0, 0, 0, 1}, {1, 0, 1, 1}, {1, 2, 0, 1}, {1, 0, 0, 2}, {1, 0, 0, 255},
            {1, 0, 255, 1}};
        for (int[] rows : wrong) {
            HomesickStamps x = new HomesickStamps();
            bytes(x, rows);
            due("exchange " + Arrays.toString(rows), x.exchange(2, 0), -2);
            due("count(7)", x.count(7), 0);
        }
        int[] six = ringOf(6);
        HomesickStamps x = new HomesickStamps();
        bytes(x, with(six, 35, 6));
        due("6 of six", x.exchange(6, 0), -2);
        bytes(x, with(six, 35, 0));
        due("0 twice of six", x.exchange(6, 0), -2);
        bytes(x, with(six, 35, 5));
        due("right of six", x.exchange(6, 0), 1);
    }

    /** Behind what is KEPT all of it changes: a LETTER more, STAMPS, USED, PASTE, THE DAY, X. */
    private static HomesickStamps keptAndChanged() {
        HomesickStamps x = with("3a", "0@5,5;0+0;0+1;0=1;1@9,5;1+2;#10,5", "p2(1=1);h4(1=1)");
        x.days(2);
        due("keep()", x.keep(), 2);
        post(x, "0@1,1;2@2,2;0+2;0-0;0=9;1@3,3");
        x.days(3);
        x.seed(7);
        return x;
    }

    private static void kept() {
        sentence("KEPT: LETTERS, STAMPS on them, USED, THE DAY, X");
        HomesickStamps x = keptAndChanged();
        due("count(0)", x.count(0), 5);
        due("undo()", x.undo(), true);
        due("count(0)", x.count(0), 2);
        due("count(2)", x.count(2), 3);
        due("count(4)", x.count(4), 3);
        int draw = 1;
        for (int i = 0; i < 4; i++) {
            draw = (25173 * draw + 13849) % 65536;
        }
        due("count(8)", x.count(8), draw);
        int[] first = {place(7, 5), 1, 0, 2, 0};
        int[] second = {place(9, 5), 0, 1, 1, 2};
        for (int what = 0; what <= 4; what++) {
            due("letterIs(0, " + what + ")", x.letterIs(0, what), first[what]);
            due("letterIs(1, " + what + ")", x.letterIs(1, what), second[what]);
            due("letterIs(2, " + what + ")", x.letterIs(2, what), -1000);
        }
        for (int s = 0; s < 3; s++) {
            due("stampIs(" + s + ", 2)", x.stampIs(s, 2), 8);
            due("stampIs(" + s + ", 3)", x.stampIs(s, 3), s / 2);
        }
    }

    private static void undone() {
        sentence("UNDONE: as they were KEPT last (WALLS, MINTS, the SHEET stay as they are now; STAMPS go by their"
            + " numbers).");
        HomesickStamps x = new HomesickStamps();
        due("undo() of none", x.undo(), false);
        due("count(8)", x.count(8), 1);
        x = keptAndChanged();
        post(x, "#1,1;#2,2");
        x.mint(0, 0, 5);
        x.mint(7, 23, 15);
        law(x, "p1(1=1);h5(1=1);x(t=99)");
        bytes(x, 9);
        due("undo()", x.undo(), true);
        due("count(1)", x.count(1), 0x8F);
        due("count(5)", x.count(5), 3);
        due("count(6)", x.count(6), 3);
        due("count(7)", x.count(7), 20);
        due("letterIs(0, 5)", x.letterIs(0, 5), -4);
        // as often as one likes, always as they were KEPT last
        x.days(9);
        due("undo()", x.undo(), true);
        due("count(0)", x.count(0), 2);
        x.days(1);
        due("keep()", x.keep(), 3);
        x.days(1);
        due("undo()", x.undo(), true);
        due("count(0)", x.count(0), 3);
        due("undo()", x.undo(), true);
        due("count(0)", x.count(0), 3);
    }

    private static void undoneByNumbers() {
        sentence("STAMPS go by their numbers");
        HomesickStamps x = keptAndChanged();
        due("fewer STAMPS", sheet(x, "btc"), 2);
        due("undo()", x.undo(), true);
        due("count(3)", x.count(3), 2);
        due("count(4)", x.count(4), 2);
        due("stampIs(0, 0)", x.stampIs(0, 0), 1);
        due("stampIs(0, 1)", x.stampIs(0, 1), 1);
        due("stampIs(0, 2)", x.stampIs(0, 2), 8);
        due("stampIs(0, 3)", x.stampIs(0, 3), 0);
        due("stampIs(2, 3)", x.stampIs(2, 3), -1);
        due("letterIs(1, 3)", x.letterIs(1, 3), 0);
        due("letterIs(1, 4)", x.letterIs(1, 4), -2);
        x = keptAndChanged();
        due("more STAMPS", sheet(x, "6(8b)"), 48);
        post(x, "0+47;0+3");
        x.days(1);
        due("undo()", x.undo(), true);
        due("count(4)", x.count(4), 3);
        due("stampIs(2, 0)", x.stampIs(2, 0), 1);
        due("stampIs(2, 2)", x.stampIs(2, 2), 8);
        due("stampIs(2, 3)", x.stampIs(2, 3), 1);
        due("stampIs(3, 3)", x.stampIs(3, 3), -2);
        due("stampIs(47, 2)", x.stampIs(47, 2), 0);
        due("stampIs(47, 3)", x.stampIs(47, 3), -2);
    }

    private static int checked(HomesickStamps x, int... places) {
        bytes(x, places);
        return x.check(places.length);
    }

    private static void check() {
        sentence("CHECK: PLACES of LETTERS (X then): right, or the first that is not so.");
        HomesickStamps x = new HomesickStamps();
        due("none told", checked(x, 255, 255, 255, 255, 255, 255, 255, 255), -1);
        due("none told, 0", checked(x, 0), 0);
        post(x, "0@0,3;3@23,4;7@5,15");
        due("right", checked(x, 0, 255, 255, 23, 255, 255, 255, 5), -1);
        for (int l = 0; l < 8; l++) {
            due("wrong at " + l, checked(x, with(new int[] {0, 255, 255, 23, 255, 255, 255, 5}, l, 6)), l);
        }
        due("the first", checked(x, 0, 255, 255, 22, 255, 0, 255, 6), 3);
        due("not asked", checked(x, 0, 255, 255), -1);
        due("Y is not asked", checked(x, 3), 0);
        due("told, 255", checked(x, 255), 0);
        due("none on the tape", x.check(1), -2);
        due("check(0)", x.check(0), -1);
        bytes(x, 0, 255, 255, 23, 255, 255, 255, 5, 255);
        due("check(9)", x.check(9), -2);
        due("check(-1)", x.check(-1), -2);
        due("count(7)", x.count(7), 20);
        due("check(8)", x.check(8), -1);
        due("count(7)", x.count(7), 0);
        bytes(x, 9, 9);
        due("check(0)", x.check(0), -1);
        due("count(7)", x.count(7), 0);
    }
}
