/** What bounds A DAY: like sums, PASTE, WALLS, USED, THE DAY 9999; and DRAWS. */
public final class DayBounds extends Bench {
    public static void main(String[] args) {
        eachToldLetter();
        eachToldMint();
        fallsOffOrPulls();
        whichWay();
        likeSums();
        moreThanPaste();
        intoAWall();
        usedMore();
        lastDay();
        lastDayTried();
        dayAtFirst();
        draws();
        drawsTurnOver();
        finish();
    }

    private static int drawn(int x, int times) {
        long next = x;
        for (int i = 0; i < times; i++) {
            next = (25173 * next + 13849) % 65536;
        }
        return (int) next;
    }

    /** MINTS a to the right of LETTER 0, b to the left, c above, d below; two STAMPS of each, all of them on it. */
    private static HomesickStamps cross(String law) {
        HomesickStamps x = new HomesickStamps();
        x.mint(0, 20, 8);
        x.mint(1, 2, 8);
        x.mint(2, 10, 1);
        x.mint(3, 10, 14);
        sheet(x, "2a2b2c2d");
        post(x, "0@10,8;0+0;0+1;0+2;0+3;0+4;0+5;0+6;0+7");
        due("law " + law, law(x, law) > 0, true);
        return x;
    }

    private static void goes(String law, int x, int y) {
        HomesickStamps cross = cross(law);
        int steps = x == 10 && y == 8 ? 0 : 1;
        due("days(1) by " + law, cross.days(1), steps);
        due("letterIs(0, 0) by " + law, cross.letterIs(0, 0), place(x, y));
    }

    private static void eachToldLetter() {
        sentence("A DAY: each told LETTER, by numbers, with a DRAW");
        HomesickStamps x = new HomesickStamps();
        due("days(5) of none", x.days(5), 0);
        due("count(8)", x.count(8), 1);
        due("count(0)", x.count(0), 5);
        // without STAMPS, or IN A WALL, too
        x = with("3a", "7@9,5;7+0;0@1,1;4@5,5;4+1;#10,5", "p1(1=1);hw(1=1)");
        due("days(1)", x.days(1), 1);
        due("letterIs(7, 2)", x.letterIs(7, 2), 1);
        due("count(8)", x.count(8), drawn(1, 3));
        due("stampIs(1, 2)", x.stampIs(1, 2), drawn(1, 2) % 10);
        due("stampIs(0, 2)", x.stampIs(0, 2), drawn(1, 3) % 10);
        due("days(2)", x.days(2), 2);
        due("count(8)", x.count(8), drawn(1, 9));
        // all eight
        x = new HomesickStamps();
        post(x, "0@1,1;1@1,1;2@1,1;3@1,1;4@1,1;5@1,1;6@1,1;7@1,1");
        x.days(1);
        due("count(8)", x.count(8), drawn(1, 8));
    }

    private static void eachToldMint() {
        sentence("each STAMP on it whose MINT is told, by numbers (x, p, h with that DRAW as w)");
        HomesickStamps x = with("ea", "0@5,5;0+0;0+1;0=9", "x(s=0);p9(1=1);hn(1=1)");
        due("days(1)", x.days(1), 0);
        due("stampIs(0, 3)", x.stampIs(0, 3), 0);
        due("stampIs(0, 2)", x.stampIs(0, 2), 0);
        // one that is not asked counts for n
        due("stampIs(1, 2)", x.stampIs(1, 2), 2);
        x.mint(4, 5, 5);
        due("days(1)", x.days(1), 0);
        due("stampIs(0, 3)", x.stampIs(0, 3), -2);
        // by numbers: those behind one that fell off are asked with an n that is less
        due("stampIs(1, 2)", x.stampIs(1, 2), 3);
        // x, p and h see one DRAW: 2, then 7
        x = with("2a", "0@5,5;0+0;0+1", "x(w=7&s=0);p1(w=2);hw(1=1)");
        due("days(1)", x.days(1), 1);
        due("stampIs(0, 2)", x.stampIs(0, 2), 2);
        due("days(1)", x.days(1), 0);
        due("stampIs(0, 3)", x.stampIs(0, 3), -2);
        due("stampIs(1, 2)", x.stampIs(1, 2), 9);
    }

    private static void fallsOffOrPulls() {
        sentence("by x it falls off; else its PULL is p to the right (left) if its MINT lies to the right (left), p"
            + " down (up) if it lies below (above).");
        goes("p1(1=1);x(m=0)", 9, 8);
        goes("p1(1=1);x(s=0)", 9, 8);
        HomesickStamps x = cross("p1(1=1);x(1=1)");
        due("days(1)", x.days(1), 0);
        due("letterIs(0, 3)", x.letterIs(0, 3), 0);
        due("count(4)", x.count(4), 0);
        due("days(1)", x.days(1), 0);
        // at its MINT it pulls nowhere, in its row or column one way alone
        x = with("d", "0@10,10;0+0", "p5(1=1)");
        due("days(1) at its MINT", x.days(1), 0);
        post(x, "0@10,9");
        due("days(1) above it", x.days(1), 1);
        due("letterIs(0, 0)", x.letterIs(0, 0), place(10, 10));
        post(x, "0@11,10");
        due("days(1) right of it", x.days(1), 1);
        due("letterIs(0, 0)", x.letterIs(0, 0), place(10, 10));
    }

    private static void whichWay() {
        sentence("All PULLS across and all along are added up.");
        goes("p1(m=0)", 11, 8);
        goes("p1(m=1)", 9, 8);
        goes("p1(m=2)", 10, 7);
        goes("p1(m=3)", 10, 9);
        goes("p1(1=1)", 10, 8);
        goes("p3(m=0);p2(m=1);p2(m=2)", 10, 7);
        goes("p3(m=0);p2(m=1);p1(s=4)", 11, 8);
        goes("p99(1=1);p0(1=1)", 10, 8);
        goes("p99(m<2);p98(s=4);p99(m=3)", 10, 9);
    }

    private static void likeSums() {
        sentence("the greater of both sums (without signs) more than PASTE, it goes a step that way (of like ones"
            + " across)");
        goes("p4(m=0);p4(m=3)", 11, 8);
        goes("p4(m=0);p4(m=2)", 11, 8);
        goes("p4(m=1);p4(m=3)", 9, 8);
        goes("p4(m=1);p4(m=2)", 9, 8);
        goes("p4(m=0);p5(m=3)", 10, 9);
        goes("p4(m=0);p5(m=2)", 10, 7);
        goes("p4(m=1);p5(m=3)", 10, 9);
        goes("p4(m=1);p5(m=2)", 10, 7);
        goes("p5(m=0);p4(m=3)", 11, 8);
        goes("p5(m=1);p4(m=2)", 9, 8);
        goes("p4(m=0);p4(m=1)", 10, 8);
        goes("p4(m=2);p4(m=3)", 10, 8);
    }

    private static void holdsIt(String law, int sum) {
        HomesickStamps x = cross(law);
        post(x, "0=" + sum);
        due("days(1) by " + law + " against " + sum, x.days(1), 0);
        due("letterIs(0, 2)", x.letterIs(0, 2), 0);
        post(x, "0=" + (sum - 1));
        due("days(1) by " + law + " against " + (sum - 1), x.days(1), 1);
    }

    private static void moreThanPaste() {
        sentence("Is the LETTER IN no WALL and the greater of both sums (without signs) more than PASTE");
        holdsIt("p4(m=0)", 8);
        holdsIt("p4(m=1)", 8);
        holdsIt("p4(m=2)", 8);
        holdsIt("p4(m=3)", 8);
        holdsIt("p1(s=0)", 1);
        holdsIt("p99(s=7)", 99);
        holdsIt("p4(m=1);p3(m=3)", 8);
        holdsIt("p4(m=2);p3(m=0)", 8);
        // both together are not added up
        holdsIt("p4(m=0);p4(m=3)", 8);
    }

    private static void intoAWall() {
        sentence("into a WALL: then it stays where it is, IN A WALL.");
        HomesickStamps x = cross("p1(m=0);h1(1=1);x(s=1&t=3)");
        post(x, "#12,8");
        due("days(1)", x.days(1), 1);
        due("letterIs(0, 2)", x.letterIs(0, 2), 0);
        due("days(1)", x.days(1), 0);
        due("letterIs(0, 0)", x.letterIs(0, 0), place(11, 8));
        due("letterIs(0, 2)", x.letterIs(0, 2), 1);
        due("tried(1, 2)", x.tried(1, 2), 1);
        // it goes no more, even another way or without the WALL; its STAMPS are asked on
        law(x, "p1(m=1);h1(1=1);x(s=1&t=3)");
        post(x, "#12,8");
        due("days(2)", x.days(2), 0);
        due("letterIs(0, 0)", x.letterIs(0, 0), place(11, 8));
        due("letterIs(0, 3)", x.letterIs(0, 3), 7);
        due("stampIs(0, 2)", x.stampIs(0, 2), 4);
        post(x, "0@11,8");
        due("days(1)", x.days(1), 1);
        due("letterIs(0, 0)", x.letterIs(0, 0), place(10, 8));
        // PASTE that holds it keeps it out of the WALL ahead of it
        x = cross("p1(m=2)");
        post(x, "#10,7;0=2");
        due("days(3)", x.days(3), 0);
        due("letterIs(0, 2)", x.letterIs(0, 2), 0);
        post(x, "0=1");
        due("days(3)", x.days(3), 0);
        due("letterIs(0, 2)", x.letterIs(0, 2), 1);
    }

    private static void usedMore() {
        sentence("(3) Each STAMP that was asked and is on it still is USED more by h.");
        HomesickStamps x = with("3ae", "0@5,5;0+0;0+1;0+3;0=99", "h2(1=1);x(s=1&t=1)");
        x.days(2);
        int[] used = {4, 2, 0, 0};
        int[] letter = {0, -2, -2, 0};
        for (int s = 0; s < 4; s++) {
            due("stampIs(" + s + ", 2)", x.stampIs(s, 2), used[s]);
            due("stampIs(" + s + ", 3)", x.stampIs(s, 3), letter[s]);
        }
        // asked where it lies ahead of its step
        x = with("a", "0@8,5;0+0", "p1(1=1);hd(1=1)");
        due("days(1)", x.days(1), 1);
        due("stampIs(0, 2)", x.stampIs(0, 2), 2);
        due("days(1)", x.days(1), 1);
        due("stampIs(0, 2)", x.stampIs(0, 2), 3);
        due("days(9)", x.days(9), 0);
        due("stampIs(0, 2)", x.stampIs(0, 2), 3);
    }

    /** THE DAY is 9900 then, and LETTER 0 lies at 0, 5 again, with PASTE no more. */
    private static HomesickStamps late() {
        HomesickStamps x = with("a", "0@0,5;0+0;0=99", "p1(1=1);h1(t=99);h2(t=98)");
        for (int i = 0; i < 99; i++) {
            x.days(100);
        }
        post(x, "0=0");
        due("count(0)", x.count(0), 9900);
        due("stampIs(0, 2)", x.stampIs(0, 2), 297);
        return x;
    }

    private static void lastDay() {
        sentence("THE DAY is one more (9999 at most: then none goes by).");
        HomesickStamps x = late();
        due("days(98)", x.days(98), 10);
        due("count(0)", x.count(0), 9998);
        post(x, "0@0,5");
        int draw = drawn(x.count(8), 1);
        due("days(1)", x.days(1), 1);
        due("count(0)", x.count(0), 9999);
        due("stampIs(0, 2)", x.stampIs(0, 2), 299);
        due("count(8)", x.count(8), draw);
        for (int n = 1; n <= 100; n += 99) {
            due("days(" + n + ")", x.days(n), 0);
            due("count(0)", x.count(0), 9999);
            due("letterIs(0, 0)", x.letterIs(0, 0), place(1, 5));
            due("stampIs(0, 2)", x.stampIs(0, 2), 299);
            due("count(8)", x.count(8), draw);
        }
        due("keep()", x.keep(), 9999);
        // as many as can
        x = late();
        draw = drawn(x.count(8), 99);
        due("days(100)", x.days(100), 10);
        due("count(0)", x.count(0), 9999);
        due("count(8)", x.count(8), draw);
        x = late();
        due("days(99)", x.days(99), 10);
        due("count(0)", x.count(0), 9999);
        due("count(8)", x.count(8), draw);
    }

    private static void lastDayTried() {
        sentence("THE DAY is one more (9999 at most: then none goes by).");
        HomesickStamps x = late();
        x.keep();
        x.days(97);
        post(x, "0@0,5;1@2,5");
        due("tried(1, 0)", x.tried(1, 0), 1);
        due("tried(2, 0)", x.tried(2, 0), 2);
        due("tried(3, 0)", x.tried(3, 0), 2);
        due("tried(100, 10)", x.tried(100, 10), place(2, 5));
        due("comes(0, .., 2)", x.comes(0, place(2, 5), 2), 2);
        due("comes(0, .., 100)", x.comes(0, place(3, 5), 100), -2);
        due("atRest(0, 100)", x.atRest(0, 100), 2);
        due("meet(0, 1, 100)", x.meet(0, 1, 100), 2);
        due("again(0, 100)", x.again(0, 100), -2);
        x.days(2);
        post(x, "0@0,5");
        due("tried(100, 0)", x.tried(100, 0), 0);
        due("comes(0, here, 1)", x.comes(0, place(0, 5), 1), 0);
        due("comes(0, next, 100)", x.comes(0, place(1, 5), 100), -2);
        due("atRest(0, 100)", x.atRest(0, 100), 0);
        due("meet(0, 1, 100)", x.meet(0, 1, 100), -2);
        due("again(0, 100)", x.again(0, 100), -2);
        // UNDONE, DAYS go by again
        due("undo()", x.undo(), true);
        due("count(0)", x.count(0), 9900);
        due("days(1)", x.days(1), 1);
        due("count(0)", x.count(0), 9901);
    }

    private static void dayAtFirst() {
        sentence("THE DAY is 0 at first.");
        HomesickStamps x = new HomesickStamps();
        due("count(0)", x.count(0), 0);
        due("keep()", x.keep(), 0);
        due("days(1)", x.days(1), 0);
        due("count(0)", x.count(0), 1);
        due("keep()", x.keep(), 1);
        due("days(100)", x.days(100), 0);
        due("count(0)", x.count(0), 101);
    }

    /** The DRAW that the next DAY's one LETTER gets, by h. */
    private static void drawIs(int seed, int next, int draw) {
        HomesickStamps x = with("a", "0@5,5;0+0", "hw(1=1)");
        due("seed(" + seed + ")", x.seed(seed), true);
        due("count(8)", x.count(8), seed);
        due("tried(1, 100)", x.tried(1, 100), draw);
        due("count(8)", x.count(8), seed);
        due("days(1)", x.days(1), 0);
        due("stampIs(0, 2)", x.stampIs(0, 2), draw);
        due("count(8)", x.count(8), next);
    }

    private static void draws() {
        sentence("DRAWS: X = (25173 X + 13849) modulo 65536 (X is THE SEED at first, 1): X modulo 10.");
        HomesickStamps x = new HomesickStamps();
        due("count(8)", x.count(8), 1);
        drawIs(1, 39022, 2);
        drawIs(0, 13849, 9);
        drawIs(65535, 54212, 2);
        drawIs(2, 64195, 5);
        // 39022, 61087, 20196, 45005
        x = with("a", "0@5,5;0+0", "hw(1=1)");
        due("days(4)", x.days(4), 0);
        due("stampIs(0, 2)", x.stampIs(0, 2), 2 + 7 + 6 + 5);
        due("count(8)", x.count(8), 45005);
    }

    private static void drawsTurnOver() {
        sentence("modulo 65536");
        drawIs(3915, 0, 0);
        drawIs(33870, 65535, 5);
        drawIs(36683, 32768, 8);
        drawIs(62000, 9, 9);
        drawIs(32045, 10, 0);
        drawIs(16992, 65529, 9);
        drawIs(52573, 65530, 0);
    }
}
