/** What bounds the questions behind '==== 2.': DAYS that are tried, PLAIN PULLS, STAMPS told, pulls told. */
public final class QuestionBounds extends Bench {
    private static final String TOLD = "STAMPED: which of 1 to 9 STAMPS (told, by numbers) on a LETTER that lies at a"
        + " PLACE (no PASTE, others aside), by PLAIN PULLS";

    public static void main(String[] args) {
        triedChangesNothing();
        triedByTheDrawsThatCome();
        comes();
        atRest();
        meet();
        again();
        home();
        lying();
        plainPull();
        stampedByNine();
        stampedInSixtyDays();
        stampedByWalls();
        stampedByTheFewest();
        hangWays();
        hangFewest();
        falseOnesSteps();
        falseOnesFewest();
        printedByTen();
        printedWays();
        finish();
    }

    private static void triedChangesNothing() {
        sentence("TRIED are n DAYS by the DRAWS that will come (nothing is changed).");
        int[] what = {0, 1, 2, 10, 13, 17, 20, 23, 27, 100, 105};
        for (int each : what) {
            HomesickStamps x = town(1);
            String before = portrait(x);
            x.tried(100, each);
            same("tried(100, " + each + ")", portrait(x), before);
            due("count(7)", x.count(7), 20);
        }
        Call[] others = {x -> x.comes(0, 383, 100), x -> x.atRest(0, 100), x -> x.meet(0, 7, 100),
            x -> x.again(3, 100)};
        for (Call other : others) {
            HomesickStamps x = town(1);
            String before = portrait(x);
            other.on(x);
            same("comes, atRest, meet, again", portrait(x), before);
            due("count(7)", x.count(7), 20);
        }
    }

    private static void triedByTheDrawsThatCome() {
        sentence("TRIED are n DAYS by the DRAWS that will come (nothing is changed).");
        for (int n = 1; n <= 100; n += 33) {
            HomesickStamps x = town();
            law(x, "pw(s=0);pg(1=1);hw(1=1);x(u>90&w=3)");
            int steps = x.tried(n, 0);
            int fall = x.tried(n, 1);
            int walled = x.tried(n, 2);
            int place = x.tried(n, 10);
            int on = x.tried(n, 23);
            int used = x.tried(n, 103);
            int before = x.count(4);
            due("days(" + n + ")", x.days(n), steps);
            due("count(4)", x.count(4), before - fall);
            due("letterIs(3, 2)", x.letterIs(3, 2) << 3, walled);
            due("letterIs(0, 0)", x.letterIs(0, 0), place);
            due("letterIs(3, 3)", x.letterIs(3, 3), on);
            due("stampIs(3, 2)", x.stampIs(3, 2), used);
        }
    }

    /** LETTER 0 goes from one corner to the other in the last 38 of 100 DAYS; LETTER 1 lies where it comes. */
    private static HomesickStamps lateGoer() {
        HomesickStamps x = new HomesickStamps();
        x.mint(0, 23, 15);
        sheet(x, "a");
        post(x, "0@0,0;0+0;1@23,15;2@0,0;3@22,15");
        law(x, "p1(t>61)");
        return x;
    }

    private static void comes() {
        sentence("COMES: behind how many of n DAYS a LETTER is at a PLACE first.");
        HomesickStamps x = lateGoer();
        due("comes(0, 383, 100)", x.comes(0, 383, 100), 100);
        due("comes(0, 383, 99)", x.comes(0, 383, 99), -2);
        due("comes(0, 0, 1)", x.comes(0, 0, 1), 0);
        due("comes(0, 1, 62)", x.comes(0, 1, 62), -2);
        due("comes(0, 1, 63)", x.comes(0, 1, 63), 63);
        due("comes(0, 1, 100)", x.comes(0, 1, 100), 63);
        due("comes(1, 383, 1)", x.comes(1, 383, 1), 0);
        due("comes(1, 0, 100)", x.comes(1, 0, 100), -2);
        due("comes(0, 24, 100)", x.comes(0, 24, 100), -2);
        // first: it comes to 9, 5 twice
        x = with("ab", "0@9,5;0+0;0+1", "p1(m=0&t<1);p1(m=1&t>0)");
        due("comes(0, 9 5)", x.comes(0, place(9, 5), 9), 0);
        due("comes(0, 10 5)", x.comes(0, place(10, 5), 9), 1);
        due("comes(0, 8 5)", x.comes(0, place(8, 5), 9), 3);
    }

    private static void atRest() {
        sentence("AT REST: behind how many of n DAYS on from which it stays to the n-th one's end (0: it stays at"
            + " once).");
        HomesickStamps x = lateGoer();
        due("atRest(0, 100)", x.atRest(0, 100), 100);
        due("atRest(0, 99)", x.atRest(0, 99), 99);
        due("atRest(0, 63)", x.atRest(0, 63), 63);
        due("atRest(0, 62)", x.atRest(0, 62), 0);
        due("atRest(0, 1)", x.atRest(0, 1), 0);
        due("atRest(1, 100)", x.atRest(1, 100), 0);
        x.days(62);
        due("atRest(0, 1)", x.atRest(0, 1), 1);
        due("atRest(0, 38)", x.atRest(0, 38), 38);
        due("atRest(0, 100)", x.atRest(0, 100), 38);
        // IN A WALL it stays
        post(x, "#3,0");
        due("atRest(0, 100)", x.atRest(0, 100), 2);
        // to and fro it comes to no rest, though it is where it was
        x = with("abt", "0@10,5;0+0;0+1", "pg(1=1)");
        due("atRest(0, 2)", x.atRest(0, 2), 2);
        due("atRest(0, 100)", x.atRest(0, 100), 100);
    }

    private static void meet() {
        sentence("MEET: behind how many of n DAYS two LETTERS are at one PLACE first.");
        HomesickStamps x = lateGoer();
        due("meet(0, 1, 100)", x.meet(0, 1, 100), 100);
        due("meet(1, 0, 100)", x.meet(1, 0, 100), 100);
        due("meet(0, 1, 99)", x.meet(0, 1, 99), -2);
        due("meet(0, 2, 1)", x.meet(0, 2, 1), 0);
        due("meet(0, 2, 100)", x.meet(0, 2, 100), 0);
        due("meet(1, 2, 100)", x.meet(1, 2, 100), -2);
        // 22, 15 is not on its way, which is across first
        due("meet(0, 3, 100)", x.meet(0, 3, 100), -2);
        due("meet(0, 0, 100)", x.meet(0, 0, 100), -1);
        // they go past each other between two DAYS
        x = with("ab", "0@5,5;0+0;1@6,5;1+1", "p1(1=1)");
        due("meet(0, 1, 100)", x.meet(0, 1, 100), -2);
        post(x, "1@7,5");
        due("meet(0, 1, 1)", x.meet(0, 1, 1), 1);
    }

    private static void again() {
        sentence("AGAIN: behind how many of n DAYS it is first at a PLACE at which it was ahead (now, too), having been"
            + " elsewhere between.");
        HomesickStamps x = with("ab", "0@5,5;0+0;0+1;1@1,1", "p1(m=0&t=0);p1(m=1&t=99)");
        due("again(0, 100)", x.again(0, 100), 100);
        due("again(0, 99)", x.again(0, 99), -2);
        due("again(0, 1)", x.again(0, 1), -2);
        due("again(1, 100)", x.again(1, 100), -2);
        law(x, "p1(m=0&t=0);p1(m=1&t=1)");
        due("again(0, 1)", x.again(0, 1), -2);
        due("again(0, 2)", x.again(0, 2), 2);
        due("again(0, 100)", x.again(0, 100), 2);
        // not only where it lies now
        law(x, "p1(m=0&t<3);p1(m=1&t=7)");
        due("again(0, 7)", x.again(0, 7), -2);
        due("again(0, 8)", x.again(0, 8), 8);
        // a rest is no return
        law(x, "p1(m=0&t>50)");
        due("again(0, 100)", x.again(0, 100), -2);
    }

    private static void home() {
        sentence("HOME of a LETTER: the MINT from which its STAMPS have most grains (2 WHOLE, 1 TORN; of like ones the"
            + " lowest); how many.");
        HomesickStamps x = withMints();
        sheet(x, "2ct2bhaf");
        post(x, "0@1,1;7@1,1;7+5");
        due("home(0, 0)", x.home(0, 0), -2);
        due("home(0, 1)", x.home(0, 1), 0);
        // FALSE alone: no grain
        due("home(7, 0)", x.home(7, 0), -2);
        due("home(7, 1)", x.home(7, 1), 0);
        post(x, "0+0");
        due("home(0, 0)", x.home(0, 0), 2);
        due("home(0, 1)", x.home(0, 1), 1);
        post(x, "0+1;0+2");
        due("home(0, 0), like ones", x.home(0, 0), 1);
        due("home(0, 1)", x.home(0, 1), 2);
        post(x, "0+3");
        due("home(0, 0)", x.home(0, 0), 1);
        due("home(0, 1)", x.home(0, 1), 4);
        post(x, "0-2;0-3;0+4");
        due("home(0, 0), like ones", x.home(0, 0), 2);
        // the first MINT and the last
        sheet(x, "2ahg");
        post(x, "0+0;0+2;0+3");
        due("home(0, 0), like ones", x.home(0, 0), 0);
        post(x, "0-0");
        due("home(0, 0), like ones", x.home(0, 0), 6);
        post(x, "0-3");
        due("home(0, 0)", x.home(0, 0), 7);
        // the most that can be: all 48 of one MINT
        sheet(x, "6(8h)");
        for (int from = 0; from < 48; from += 16) {
            StringBuilder lines = new StringBuilder();
            for (int s = from; s < from + 16; s++) {
                lines.append(s == from ? "0+" : ";0+").append(s);
            }
            due("post", post(x, lines.toString()), 16);
        }
        due("home(0, 0)", x.home(0, 0), 7);
        due("home(0, 1)", x.home(0, 1), 96);
        due("letterIs(0, 3)", x.letterIs(0, 3), 48);
    }

    private static void lying() {
        sentence("LYING at a PLACE: LETTERS (bits).");
        HomesickStamps x = new HomesickStamps();
        due("lying(0)", x.lying(0), 0);
        due("lying(383)", x.lying(383), 0);
        post(x, "0@0,0;7@0,0;3@23,15");
        due("lying(0)", x.lying(0), 129);
        due("lying(383)", x.lying(383), 8);
        due("lying(1)", x.lying(1), 0);
        due("lying(382)", x.lying(382), 0);
        due("lying(-1)", x.lying(-1), -1);
        due("lying(384)", x.lying(384), -1);
    }

    private static void plainPull() {
        sentence("PLAIN PULL of a STAMP: 2 WHOLE, 1 TORN, 0 FALSE (THE LAW, USED, paste aside), as above.");
        HomesickStamps x = with("aatafe", "0@5,6;0=99", "p0(1=1);h9(1=1)");
        int[] pulls = {2, 1, 0, 0};
        for (int s = 0; s < 4; s++) {
            post(x, "0+" + s);
            x.days(1);
            due("letterIs(0, 5) by " + s, x.letterIs(0, 5), pulls[s]);
            due("letterIs(0, 6) by " + s, x.letterIs(0, 6), -pulls[s]);
            post(x, "0-" + s);
        }
        due("letterIs(0, 5) by none", x.letterIs(0, 5), 0);
        post(x, "0+0;0+1;0+2;0+3;0@10,5");
        due("letterIs(0, 5) there", x.letterIs(0, 5), 0);
        due("letterIs(0, 6) there", x.letterIs(0, 6), 0);
        post(x, "0@11,4");
        due("letterIs(0, 5)", x.letterIs(0, 5), -3);
        due("letterIs(0, 6)", x.letterIs(0, 6), 3);
    }

    /** STAMPS 0, 1 of a, 2 of b, 3 of c (TORN), 4, 5 of d, 6 of a (FALSE), 7 of e, whose MINT is not told. */
    private static HomesickStamps crew() {
        HomesickStamps x = withMints();
        sheet(x, "2abct2dafe");
        return x;
    }

    private static int stamped(HomesickStamps x, int[] which, int from, int to, int days) {
        bytes(x, which);
        return x.stamped(which.length, from, to, days, 1);
    }

    private static void stampedByNine() {
        sentence(TOLD);
        HomesickStamps x = crew();
        int from = place(5, 5);
        due("one", stamped(x, new int[] {0}, from, place(6, 5), 1), 1);
        // only the ninth brings it to the left
        due("nine", stamped(x, new int[] {0, 1, 0, 1, 0, 1, 0, 1, 2}, from, place(4, 5), 1), 256);
        bytes(x, 0, 1, 0, 1, 0, 1, 0, 1, 2, 0);
        due("ten", x.stamped(10, from, place(4, 5), 1, 1), -1);
        due("count(7)", x.count(7), 20);
        due("none", x.stamped(0, from, from, 1, 1), -1);
        due("count(7)", x.count(7), 20);
        due("nine of them", x.stamped(9, from, place(4, 5), 1, 0), 1);
        due("count(7)", x.count(7), 0);
        due("none on the tape", x.stamped(1, from, from, 1, 1), -1);
        // the last STAMP that is there, the first that is not; a MINT that is not told
        due("6", stamped(x, new int[] {6}, from, from, 1), 0);
        due("7", stamped(x, new int[] {7}, from, from, 1), -3);
        due("8", stamped(x, new int[] {8}, from, from, 1), -3);
        due("count(7)", x.count(7), 0);
        x.mint(4, 0, 0);
        due("7", stamped(x, new int[] {7}, from, from, 1), 0);
        due("255 at the last place", stamped(x, new int[] {0, 255}, from, from, 1), -3);
    }

    private static void stampedInSixtyDays() {
        sentence("let it be at another PLACE at the end of the n-th DAY (n 0 to 60; WALLS as they are; not IN A WALL)");
        HomesickStamps x = withMints();
        sheet(x, "abt");
        int[] both = {0, 1};
        // both bring it to 10, 5 in five DAYS, then it goes to and fro between 9, 5 and there
        due("59", stamped(x, both, place(5, 5), place(9, 5), 59), -2);
        due("60", stamped(x, both, place(5, 5), place(9, 5), 60), 3);
        due("58", stamped(x, both, place(5, 5), place(9, 5), 58), 3);
        bytes(x, both);
        due("61", x.stamped(2, place(5, 5), place(9, 5), 61, 1), -1);
        due("-1", x.stamped(2, place(5, 5), place(9, 5), -1, 1), -1);
        due("count(7)", x.count(7), 20);
        due("0", x.stamped(2, place(5, 5), place(5, 5), 0, 1), 0);
        due("0 to another", stamped(x, both, place(5, 5), place(6, 5), 0), -2);
        due("1", stamped(x, both, place(5, 5), place(6, 5), 1), 1);
        // at the end of the n-th, not ahead of it
        due("1 to there in 2", stamped(x, both, place(5, 5), place(6, 5), 2), -2);
        // from and to the last PLACES
        x.mint(0, 23, 15);
        x.mint(1, 0, 0);
        due("0 to 383 in 38", stamped(x, both, 0, 383, 38), 1);
        due("0 to 383 in 37", stamped(x, both, 0, 383, 37), -2);
        due("383 to 0 in 38", stamped(x, both, 383, 0, 38), 2);
    }

    private static void stampedByWalls() {
        sentence("WALLS as they are; not IN A WALL");
        HomesickStamps x = crew();
        int[] three = {0, 1, 2};
        int from = place(5, 5);
        post(x, "#8,5;0@5,5;0+0;0=99");
        due("ahead of it in 2", stamped(x, three, from, place(7, 5), 2), 1);
        due("IN it by 3", stamped(x, three, from, place(7, 5), 3), -2);
        due("beyond it", stamped(x, three, from, place(9, 5), 4), -2);
        due("into it", stamped(x, three, from, place(8, 5), 3), -2);
        due("out of it", stamped(x, three, place(8, 5), place(9, 5), 1), 1);
        due("in it, by none", stamped(x, three, place(8, 5), place(8, 5), 60), 0);
        post(x, "#8,5");
        due("without it", stamped(x, three, from, place(8, 5), 3), 1);
        due("letterIs(0, 2)", x.letterIs(0, 2), 0);
    }

    private static void stampedByTheFewest() {
        sentence("the fewest (none, too); of like ones the least bits (bit i: the one at place i)");
        HomesickStamps x = crew();
        int from = place(5, 5);
        due("none", stamped(x, new int[] {0, 1}, from, from, 9), 0);
        bytes(x, 0, 1);
        due("none, how many", x.stamped(2, from, from, 9, 0), 0);
        due("like ones", stamped(x, new int[] {2, 1, 0}, from, place(6, 5), 1), 2);
        // three against one is needed, though two would do against none
        due("fewest", stamped(x, new int[] {0, 1, 2}, from, place(6, 5), 1), 1);
        // a holds d up: only both of them hang at 10, 6 in the end
        due("both", stamped(x, new int[] {4, 0}, place(10, 5), place(10, 6), 9), 3);
        bytes(x, 4, 0);
        due("both, how many", x.stamped(2, place(10, 5), place(10, 6), 9, 0), 2);
        // c is TORN: two of it hold one d; bits 1, 2, 3 are the least
        due("three", stamped(x, new int[] {3, 4, 3, 0}, place(10, 4), place(10, 3), 1), 1);
    }

    private static int hang(HomesickStamps x, int[] which, int place, int what) {
        bytes(x, which);
        return x.hang(which.length, place, what);
    }

    private static void hangWays() {
        sentence("HANG: in how many ways some of these (at least one) pull each other still at a PLACE (both sums 0)");
        HomesickStamps x = crew();
        int here = place(5, 5);
        due("one that pulls", hang(x, new int[] {0}, here, 0), 0);
        due("a FALSE one", hang(x, new int[] {6}, here, 0), 1);
        due("one at its MINT", hang(x, new int[] {0}, place(10, 5), 0), 1);
        due("one against another", hang(x, new int[] {0, 2}, here, 0), 1);
        due("either of two", hang(x, new int[] {0, 1, 2}, here, 0), 2);
        due("across alone still", hang(x, new int[] {0, 2}, place(5, 6), 0), 0);
        due("nine at their MINT", hang(x, new int[] {0, 1, 0, 1, 0, 1, 0, 1, 0}, place(10, 5), 0), 511);
        bytes(x, 0, 1, 0, 1, 0, 1, 0, 1, 0, 1);
        due("ten", x.hang(10, place(10, 5), 0), -1);
        due("none", x.hang(0, place(10, 5), 0), -1);
        due("count(7)", x.count(7), 20);
        due("nine of them", x.hang(9, place(10, 5), 0), 511);
        due("none on the tape", x.hang(1, here, 0), -1);
    }

    private static void hangFewest() {
        sentence("the fewest that do (least bits)");
        HomesickStamps x = crew();
        int here = place(5, 5);
        due("none do", hang(x, new int[] {0, 1}, here, 1), -2);
        due("least bits", hang(x, new int[] {1, 0, 2, 2}, here, 1), 5);
        due("fewest", hang(x, new int[] {1, 0, 2, 2, 6}, here, 1), 16);
        due("nine at their MINT", hang(x, new int[] {0, 1, 0, 1, 0, 1, 0, 1, 0}, place(10, 5), 1), 1);
        due("the ninth alone", hang(x, new int[] {0, 1, 0, 1, 0, 1, 0, 1, 6}, here, 1), 256);
        due("7", hang(x, new int[] {7}, here, 1), -3);
        due("8", hang(x, new int[] {8}, here, 1), -3);
        due("the first PLACE", hang(x, new int[] {2}, 0, 1), -2);
        due("the last PLACE", hang(x, new int[] {6}, 383, 1), 1);
        due("count(7)", x.count(7), 0);
    }

    private static int falseOnes(HomesickStamps x, int[] which, int place, int across, int along) {
        bytes(x, which);
        return x.falseOnes(which.length, place, across, along, 1);
    }

    private static void falseOnesSteps() {
        sentence("FALSE ONES: a LETTER with all of these (no PASTE, no WALLS) went a step across (1 right, -1 left, 0"
            + " none) or along (1 down, -1 up, 0 none) or none in a DAY from a PLACE");
        HomesickStamps x = crew();
        int[] all = {0, 2, 3, 4};
        // at 5, 5: a 2 right, b 2 left, c TORN 1 right and up, d 2 right and down
        int here = place(5, 5);
        due("right", falseOnes(x, all, here, 1, 0), 0);
        due("left", falseOnes(x, all, here, -1, 0), 9);
        // without a the sums are like: across; without c, too, it goes down
        due("down", falseOnes(x, all, here, 0, 1), 5);
        due("up", falseOnes(x, all, here, 0, -1), -2);
        due("none", falseOnes(x, all, here, 0, 0), 12);
        due("both", falseOnes(x, all, here, 1, 1), -2);
        due("both", falseOnes(x, all, here, 1, -1), -2);
        due("both", falseOnes(x, all, here, -1, 1), -2);
        due("both", falseOnes(x, all, here, -1, -1), -2);
        post(x, "#6,5;0@5,5;0=99;0+0");
        due("no PASTE, no WALLS", falseOnes(x, all, here, 1, 0), 0);
        int[][] beyond = {{2, 0}, {-2, 0}, {0, 2}, {0, -2}};
        bytes(x, all);
        for (int[] steps : beyond) {
            due(steps[0] + ", " + steps[1], x.falseOnes(4, here, steps[0], steps[1], 1), -1);
        }
        due("count(7)", x.count(7), 20);
    }

    private static void falseOnesFewest() {
        sentence("the fewest of those not told FALSE that must be false (pull nothing), so that the others' PLAIN PULLS"
            + " let it go so; of like ones the least bits.");
        HomesickStamps x = crew();
        int here = place(5, 5);
        due("one", falseOnes(x, new int[] {0}, here, 0, 0), 1);
        due("like ones", falseOnes(x, new int[] {0, 1, 2}, here, 0, 0), 1);
        due("not those told FALSE", falseOnes(x, new int[] {6, 0, 6}, here, 0, 0), 2);
        due("FALSE alone", falseOnes(x, new int[] {6}, here, 0, 0), 0);
        due("FALSE alone", falseOnes(x, new int[] {6}, here, 1, 0), -2);
        int[] nine = {0, 1, 0, 1, 0, 1, 0, 1, 0};
        due("nine", falseOnes(x, nine, here, 0, 0), 511);
        bytes(x, nine);
        due("nine, how many", x.falseOnes(9, here, 0, 0, 0), 9);
        bytes(x, nine);
        due("ten", x.falseOnes(10, here, 0, 0, 0), -1);
        due("none", x.falseOnes(0, here, 0, 0, 0), -1);
        due("count(7)", x.count(7), 20);
        x.check(0);
        due("7", falseOnes(x, new int[] {7}, here, 0, 0), -3);
        due("8", falseOnes(x, new int[] {8}, here, 0, 0), -3);
        due("8, both steps", falseOnes(x, new int[] {8}, here, 1, 1), -3);
        due("the first PLACE", falseOnes(x, new int[] {2}, 0, 0, 1), 0);
        due("the last PLACE", falseOnes(x, new int[] {0}, 383, -1, 0), 0);
    }

    private static void printedByTen() {
        sentence("PRINTED: by 1 to 10 pulls (a PLACE, which way: bits 1 right, 2 left, 4 down, 8 up)");
        HomesickStamps x = withMints();
        int[] ten = new int[30];
        for (int i = 0; i < 30; i += 3) {
            ten[i] = 11;
            ten[i + 1] = 11;
            ten[i + 2] = 10;
        }
        bytes(x, ten);
        due("ten", x.printed(10), 15);
        due("count(7)", x.count(7), 0);
        // the tenth counts
        ten[29] = 9;
        bytes(x, ten);
        due("eleven", x.printed(11), -1);
        due("count(7)", x.count(7), 40);
        due("ten", x.printed(10), 0);
        bytes(x, ten);
        due("nine", x.printed(9), 15);
        bytes(x, ten);
        due("none", x.printed(0), -1);
        due("one", x.printed(1), 15);
        bytes(x, 11, 11, 10, 11, 11, 10, 11, 11, 10, 11, 11, 10, 11, 11, 10, 11, 11, 10, 1, 1);
        due("seven in 20 bytes", x.printed(7), -1);
        due("count(7)", x.count(7), 20);
        due("six in 20 bytes", x.printed(6), 15);
        due("none on the tape", x.printed(1), -1);
    }

    private static void printedWays() {
        sentence("MINTS (bits) that lie so from each.");
        HomesickStamps x = new HomesickStamps();
        bytes(x, 5, 5, 0);
        due("no MINTS", x.printed(1), 0);
        x.mint(0, 0, 0);
        x.mint(7, 23, 15);
        int[][] pulls = {{0, 0, 0, 1}, {0, 0, 5, 128}, {23, 15, 0, 128}, {23, 15, 10, 1}, {0, 15, 8, 1},
            {0, 15, 1, 128}, {23, 0, 2, 1}, {23, 0, 4, 128}, {1, 1, 10, 1}, {22, 14, 5, 128}, {0, 0, 1, 0},
            {0, 0, 4, 0}, {1, 1, 15, 0}, {1, 1, 16, 0}, {0, 0, 16, 0}, {1, 1, 26, 0}, {1, 1, 255, 0}};
        for (int[] pull : pulls) {
            bytes(x, pull[0], pull[1], pull[2]);
            due("from " + pull[0] + ", " + pull[1] + " by " + pull[2], x.printed(1), pull[3]);
        }
    }
}
