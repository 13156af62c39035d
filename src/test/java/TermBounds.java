/** What the first lines of the Terms bound: THE MAP, MINTS, STAMPS, LETTERS, PASTE, WALLS. */
public final class TermBounds extends Bench {
    public static void main(String[] args) {
        theMap();
        mints();
        stamps();
        used();
        letters();
        paste();
        walls();
        finish();
    }

    private static void theMap() {
        sentence("THE MAP: PLACES, X 0 to 23, Y 0 to 15 (down is Y more).");
        HomesickStamps x = new HomesickStamps();
        due("mint(0, 0, 0)", x.mint(0, 0, 0), true);
        due("mint(1, 23, 15)", x.mint(1, 23, 15), true);
        due("mint(2, 24, 15)", x.mint(2, 24, 15), false);
        due("mint(2, 23, 16)", x.mint(2, 23, 16), false);
        due("mint(2, -1, 0)", x.mint(2, -1, 0), false);
        due("mint(2, 0, -1)", x.mint(2, 0, -1), false);
        due("count(1)", x.count(1), 3);
        due("four corners", post(x, "0@0,0;1@23,0;2@0,15;3@23,15"), 4);
        int[] corners = {0, 23, 360, 383};
        for (int l = 0; l < 4; l++) {
            due("letterIs(" + l + ", 0)", x.letterIs(l, 0), corners[l]);
            due("lying(" + corners[l] + ")", x.lying(corners[l]), 1 << l);
        }
        due("post 4@24,15", post(x, "4@24,15"), -3002);
        due("post 4@23,16", post(x, "4@23,16"), -3005);
        due("count(2)", x.count(2), 15);
        due("post #24,15", post(x, "#24,15"), -3001);
        due("post #23,16", post(x, "#23,16"), -3004);
        due("count(5)", x.count(5), 0);
        due("post #0,0;#23,15", post(x, "#0,0;#23,15"), 2);
        due("count(5)", x.count(5), 2);
        fromCornerToCorner(x);
    }

    /** LETTER 0 goes 23 steps to the right and 15 down, LETTER 3 the other way. */
    private static void fromCornerToCorner(HomesickStamps x) {
        sheet(x, "ab");
        law(x, "p1(1=1)");
        post(x, "0+1;3+0");
        due("tried(24, 10)", x.tried(24, 10), place(23, 1));
        due("tried(24, 13)", x.tried(24, 13), place(0, 14));
        due("tried(37, 2)", x.tried(37, 2), 0);
        due("tried(38, 2)", x.tried(38, 2), 9);
        due("tried(38, 10)", x.tried(38, 10), place(23, 14));
        due("tried(38, 13)", x.tried(38, 13), place(0, 1));
        due("no WALLS", post(x, "#0,0;#23,15"), 2);
        due("comes(0, 383, 37)", x.comes(0, 383, 37), -2);
        due("comes(0, 383, 38)", x.comes(0, 383, 38), 38);
        due("comes(3, 0, 38)", x.comes(3, 0, 38), 38);
        due("days(100)", x.days(100), 76);
        due("lying(0)", x.lying(0), 8);
        due("lying(383)", x.lying(383), 1);
    }

    private static void mints() {
        sentence("MINTS a to h (0 to 7): told or not, at a PLACE.");
        HomesickStamps x = new HomesickStamps();
        due("sheet with all MINTS", sheet(x, "fabcdegh"), 8);
        int[] mints = {5, 0, 1, 2, 3, 4, 6, 7};
        for (int s = 0; s < 8; s++) {
            due("stampIs(" + s + ", 0)", x.stampIs(s, 0), mints[s]);
        }
        due("sheet i", sheet(x, "i"), -1000);
        due("sheet `", sheet(x, "`"), -1000);
        due("count(3)", x.count(3), 8);
        due("mint(-1, 1, 1)", x.mint(-1, 1, 1), false);
        due("mint(8, 1, 1)", x.mint(8, 1, 1), false);
        due("count(1)", x.count(1), 0);
        due("mint(7, 1, 1)", x.mint(7, 1, 1), true);
        due("count(1)", x.count(1), 128);
        due("mint(0, 1, 1)", x.mint(0, 1, 1), true);
        due("count(1)", x.count(1), 129);
        // told or not: only h and a pull at 0, 0
        post(x, "0@0,0;0+0;0+1;0+7");
        due("letterIs(0, 5)", x.letterIs(0, 5), 4);
        due("letterIs(0, 6)", x.letterIs(0, 6), 4);
        for (int m = 0; m < 8; m++) {
            due("mint(" + m + ", 2, 2)", x.mint(m, 2, 2), true);
        }
        due("count(1)", x.count(1), 255);
        due("letterIs(0, 5)", x.letterIs(0, 5), 6);
        due("letterIs(0, 6)", x.letterIs(0, 6), 6);
    }

    private static void stamps() {
        sentence("STAMPS 0 to 47: each of a MINT, WHOLE, TORN or FALSE, USED (0 at first; 999 at most), on a LETTER or"
            + " on none (at first).");
        HomesickStamps x = withMints();
        due("stampIs(0, 0)", x.stampIs(0, 0), -1);
        due("sheet of 48", sheet(x, "a9b9b9b9b9bctdf"), 48);
        int[] last = {3, 0, 0, -2};
        int[] lastButOne = {2, 1, 0, -2};
        int[] first = {0, 2, 0, -2};
        for (int what = 0; what <= 3; what++) {
            due("stampIs(0, " + what + ")", x.stampIs(0, what), first[what]);
            due("stampIs(46, " + what + ")", x.stampIs(46, what), lastButOne[what]);
            due("stampIs(47, " + what + ")", x.stampIs(47, what), last[what]);
            due("stampIs(48, " + what + ")", x.stampIs(48, what), -1);
            due("stampIs(-1, " + what + ")", x.stampIs(-1, what), -1);
        }
        due("count(4)", x.count(4), 0);
        due("post +47", post(x, "0@1,1;0+47"), 2);
        due("stampIs(47, 3)", x.stampIs(47, 3), 0);
        due("post +48", post(x, "0+48"), -7002);
        due("post -48", post(x, "0-48"), -7002);
        due("letterIs(0, 3)", x.letterIs(0, 3), 1);
        due("letterIs(0, 4)", x.letterIs(0, 4), 47);
        law(x, "hs(1=1)");
        due("tried(1, 147)", x.tried(1, 147), 47);
        due("tried(1, 148)", x.tried(1, 148), -1);
        bytes(x, 47);
        due("hang of 47", x.hang(1, 0, 1), 1);
        bytes(x, 48);
        due("hang of 48", x.hang(1, 0, 1), -3);
    }

    private static void used() {
        sentence("USED (0 at first; 999 at most)");
        HomesickStamps x = with("3a", "0@5,5;0+0;0+1;0+2;0=99", "h99(1=1)");
        due("stampIs(0, 2)", x.stampIs(0, 2), 0);
        due("days(10)", x.days(10), 0);
        due("stampIs(0, 2)", x.stampIs(0, 2), 990);
        law(x, "h8(s=0);h9(s=1);h10(s=2)");
        int[] then = {998, 999, 999};
        for (int s = 0; s < 3; s++) {
            due("tried(1, 10" + s + ")", x.tried(1, 100 + s), then[s]);
        }
        due("days(1)", x.days(1), 0);
        for (int s = 0; s < 3; s++) {
            due("stampIs(" + s + ", 2)", x.stampIs(s, 2), then[s]);
        }
        law(x, "h1(1=1)");
        for (int day = 1; day <= 2; day++) {
            x.days(1);
            for (int s = 0; s < 3; s++) {
                due("stampIs(" + s + ", 2)", x.stampIs(s, 2), 999);
            }
        }
        due("tried(100, 100)", x.tried(100, 100), 999);
        // THE LAW sees no more, either
        post(x, "0=2");
        law(x, "p1(u=999)");
        due("tried(1, 0) by u=999", x.tried(1, 0), 1);
        law(x, "p1(u>999)");
        due("tried(1, 0) by u>999", x.tried(1, 0), 0);
        // it is kept so, and comes back so
        x.keep();
        sheet(x, "3a");
        due("stampIs(0, 2)", x.stampIs(0, 2), 0);
        x.undo();
        due("stampIs(0, 2)", x.stampIs(0, 2), 999);
    }

    private static void letters() {
        sentence("LETTERS 0 to 7: told or not, at a PLACE, PASTE (0 to 99; 0 at first), IN A WALL or not.");
        HomesickStamps x = new HomesickStamps();
        due("post 8@1,1", post(x, "8@1,1"), -1000);
        due("post /@1,1", post(x, "/@1,1"), -1000);
        due("count(2)", x.count(2), 0);
        due("letterIs(7, 0)", x.letterIs(7, 0), -1000);
        due("post 7@1,1", post(x, "7@1,1"), 1);
        due("count(2)", x.count(2), 128);
        int[] seventh = {25, 0, 0, 0, -2, 0, 0};
        for (int what = 0; what <= 6; what++) {
            due("letterIs(7, " + what + ")", x.letterIs(7, what), seventh[what]);
            due("letterIs(8, " + what + ")", x.letterIs(8, what), -1000);
            due("letterIs(6, " + what + ")", x.letterIs(6, what), -1000);
            due("letterIs(-1, " + what + ")", x.letterIs(-1, what), -1000);
        }
        due("post 0@0,0", post(x, "0@0,0"), 1);
        due("count(2)", x.count(2), 129);
        due("letterIs(0, 0)", x.letterIs(0, 0), 0);
        // the last one as the first: PASTE, STAMPS, steps, a WALL
        x.mint(7, 9, 1);
        sheet(x, "2h");
        law(x, "p1(1=1)");
        due("post 7=99", post(x, "7=99;7+1"), 2);
        due("letterIs(7, 1)", x.letterIs(7, 1), 99);
        due("tried(3, 17)", x.tried(3, 17), place(1, 1));
        due("post 7=0", post(x, "7=0;#4,1"), 2);
        due("letterIs(7, 1)", x.letterIs(7, 1), 0);
        due("tried(2, 17)", x.tried(2, 17), place(3, 1));
        due("days(3)", x.days(3), 2);
        due("letterIs(7, 2)", x.letterIs(7, 2), 1);
        due("letterIs(0, 2)", x.letterIs(0, 2), 0);
        due("all eight", post(x, "0@1,1;1@1,1;2@1,1;3@1,1;4@1,1;5@1,1;6@1,1;7@1,1"), 8);
        due("count(2)", x.count(2), 255);
        due("lying(25)", x.lying(25), 255);
    }

    private static void paste() {
        sentence("PASTE (0 to 99; 0 at first)");
        HomesickStamps x = with("2a", "0@5,5;0+0", "p99(1=1)");
        due("letterIs(0, 1)", x.letterIs(0, 1), 0);
        due("post 0=99", post(x, "0=99"), 1);
        due("letterIs(0, 1)", x.letterIs(0, 1), 99);
        due("tried(1, 0), 99 against 99", x.tried(1, 0), 0);
        due("post 0=100", post(x, "0=100"), -2004);
        due("letterIs(0, 1)", x.letterIs(0, 1), 99);
        due("post 0=98", post(x, "0=98"), 1);
        due("tried(1, 0), 99 against 98", x.tried(1, 0), 1);
        post(x, "0=99;0+1");
        due("tried(1, 0), 198 against 99", x.tried(1, 0), 1);
        law(x, "p1(s=0)");
        due("post 0=0", post(x, "0=0"), 1);
        due("letterIs(0, 1)", x.letterIs(0, 1), 0);
        due("tried(1, 0), 1 against 0", x.tried(1, 0), 1);
        due("post 0=1", post(x, "0=1"), 1);
        due("tried(1, 0), 1 against 1", x.tried(1, 0), 0);
        law(x, "p0(1=1)");
        post(x, "0=0");
        due("tried(1, 0), 0 against 0", x.tried(1, 0), 0);
    }

    /** Turns all 384 PLACES, as many in a POST as go into 120 bytes. */
    private static void turnAll(HomesickStamps x) {
        StringBuilder lines = new StringBuilder();
        int many = 0;
        for (int place = 0; place < 384; place++) {
            lines.append(many == 0 ? "#" : ";#").append(place % 24).append(',').append(place / 24);
            many++;
            if (many == 17 || place == 383) {
                due("post of WALLS", post(x, lines.toString()), many);
                lines.setLength(0);
                many = 0;
            }
        }
    }

    private static void walls() {
        sentence("WALLS: PLACES.");
        HomesickStamps x = withMints();
        turnAll(x);
        due("count(5)", x.count(5), 384);
        sheet(x, "a");
        law(x, "p1(1=1)");
        post(x, "0@9,5;0+0");
        due("letterIs(0, 2)", x.letterIs(0, 2), 0);
        due("tried(1, 2)", x.tried(1, 2), 1);
        due("none there", post(x, "#10,5"), 1);
        due("count(5)", x.count(5), 383);
        due("tried(9, 2)", x.tried(9, 2), 0);
        due("tried(9, 0)", x.tried(9, 0), 1);
        due("there again", post(x, "#10,5"), 1);
        due("count(5)", x.count(5), 384);
        x = withMints();
        turnAll(x);
        turnAll(x);
        due("count(5)", x.count(5), 0);
    }
}
