import java.util.Arrays;

/**
 * Each number that a call takes, promise by promise: the last ones that are taken, the first that are refused, and that
 * a call that is refused changes nothing.
 */
public final class CallBounds extends Bench {
    private static final int[] FORTY = new int[40];
    private static final int[] FULL = new int[260];
    private static final int[] RING = {1, 2, 0, 2, 0, 1, 0, 1, 2};

    public static void main(String[] args) {
        newObject();
        mint();
        feed();
        law();
        sheet();
        post();
        days();
        tried();
        letterIs();
        stampIs();
        comes();
        atRest();
        meet();
        again();
        home();
        lying();
        stamped();
        hang();
        falseOnes();
        printed();
        ship();
        mule();
        marks();
        franked();
        exchange();
        seed();
        keepAndUndo();
        check();
        count();
        refusedOnesTogether();
        firstBytesOfTheTape();
        lastCall();
        itsOwnMemory();
        finish();
    }

    private static void newObject() {
        sentence("No MINTS, STAMPS, LETTERS, LAW; THE SEED 1.");
        HomesickStamps x = new HomesickStamps();
        int[] counts = {0, 0, 0, 0, 0, 0, 0, 0, 1};
        for (int what = 0; what <= 8; what++) {
            due("count(" + what + ")", x.count(what), counts[what]);
        }
        for (int l = 0; l < 8; l++) {
            due("letterIs(" + l + ", 0)", x.letterIs(l, 0), -1000);
            due("home(" + l + ", 0)", x.home(l, 0), -1);
            due("comes(" + l + ", 0, 1)", x.comes(l, 0, 1), -1);
            due("atRest(" + l + ", 1)", x.atRest(l, 1), -1);
            due("again(" + l + ", 1)", x.again(l, 1), -1);
            due("tried(1, 1" + l + ")", x.tried(1, 10 + l), -1);
            due("tried(1, 2" + l + ")", x.tried(1, 20 + l), -1);
        }
        due("stampIs(0, 0)", x.stampIs(0, 0), -1);
        due("tried(1, 100)", x.tried(1, 100), -1);
        due("tried(1, 0)", x.tried(1, 0), 0);
        due("tried(1, 2)", x.tried(1, 2), 0);
        due("undo()", x.undo(), false);
    }

    private static void mint() {
        sentence("A MINT (told once or again): true; false: no such ones.");
        bounds("mint(m, 5, 5)", 0, 7, 0, (x, m) -> bit(x.mint(m, 5, 5)), 1);
        bounds("mint(2, x, 5)", 0, 23, 0, (x, v) -> bit(x.mint(2, v, 5)), 1);
        bounds("mint(2, 5, y)", 0, 15, 0, (x, v) -> bit(x.mint(2, 5, v)), 1);
        HomesickStamps x = town();
        due("mint(0, 0, 0)", x.mint(0, 0, 0), true);
        due("count(1)", x.count(1), 15);
        due("mint(0, 23, 15)", x.mint(0, 23, 15), true);
        due("count(1)", x.count(1), 15);
        due("letterIs(3, 5)", x.letterIs(3, 5), 1);
        due("letterIs(3, 6)", x.letterIs(3, 6), 1);
    }

    private static void feed() {
        sentence("Twenty bytes come behind the tape, the highest of each int first: how many it has; NONE if that would"
            + " be more than 260.");
        HomesickStamps x = new HomesickStamps();
        for (int many = 20; many <= 260; many += 20) {
            due("feed", x.feed(0x80818283, many, many, many, 0x64656667), many);
            due("count(7)", x.count(7), many);
        }
        due("feed beyond 260", x.feed(0x61616161, 0, 0, 0, 0), -1);
        due("count(7)", x.count(7), 260);
        due("ship(1, 0)", x.ship(1, 0), 0x80);
        due("count(7)", x.count(7), 0);
        refused("feed", -1, y -> y.feed(1, 2, 3, 4, 5), FULL);
        // each byte at its place, those of the second feed behind those of the first
        x.feed(0x61626364, 0x6568667C, 0, 0, 0);
        due("a FAULT at the eighth", x.sheet(8), -1007);
        int[] words = {0xFF000000, 0x00FF0000, 0x0000FF00, 0x000000FF};
        for (int i = 0; i < 4; i++) {
            x.feed(words[i], words[i], words[i], words[i], words[i]);
            due("the byte " + i, x.mule(4, 255, 1), 1 << i);
        }
        x.feed(0, 0, 0, 0, 0x61);
        x.feed(0x62000000, 0, 0, 0, 0);
        due("a FAULT at the first", x.sheet(20), -1000);
    }

    /** Of this tape the first n bytes have that FAULT: it is empty then, and all else stays. */
    private static void faults(String call, int want, Call asked, String tape) {
        changesNothing(call + " " + tape, want, asked, bytesOf(tape));
    }

    private static void law() {
        sentence("THE LAW by the first n bytes of the tape (1 to 240; empty then), in place of the one before: how many"
            + " RULES; a FAULT: -1000 times its number, less its place (the one before stays); NONE: no such n, it has"
            + " not so many (the tape stays).");
        bounds("law(n)", 1, 240, -1, HomesickStamps::law, FULL);
        bounds("law(n) of 20", 1, 20, -1, HomesickStamps::law, 1);
        bounds("law(n) of 40", 1, 40, -1, HomesickStamps::law, FORTY);
        refused("law(1) of none", -1, x -> x.law(1));
        faults("law(7)", -1006, x -> x.law(7), "h9(1=1;");
        faults("law(13)", -1013, x -> x.law(13), "h9(1=1);x(1=1)");
        faults("law(9)", -2006, x -> x.law(9), "p123456(1=1)");
        faults("law(9)", -5007, x -> x.law(9), "p[[[[[[[1]]]]]]](1=1)");
        faults("law(120)", -4112, x -> x.law(120), "x(1=1);".repeat(17) + "x");
        // only the first n count; what stands behind them is gone, too
        HomesickStamps x = town(bytesOf("h7(1=1);h8(1=1);p9"));
        due("law(7)", x.law(7), 1);
        due("count(6)", x.count(6), 1);
        due("count(7)", x.count(7), 0);
        due("tried(1, 100)", x.tried(1, 100), 25);
        due("tried(1, 0)", x.tried(1, 0), 0);
        due("law", law(x, "p9(1=1)"), 1);
        due("tried(1, 100)", x.tried(1, 100), 18);
        due("tried(1, 0)", x.tried(1, 0), 1);
    }

    private static void sheet() {
        sentence("A SHEET by the first n bytes of the tape (1 to 60; empty then): how many STAMPS; a FAULT (all stays);"
            + " NONE: as above.");
        bounds("sheet(n)", 1, 60, -1, HomesickStamps::sheet, FULL);
        bounds("sheet(n) of 20", 1, 20, -1, HomesickStamps::sheet, 1);
        bounds("sheet(n) of 40", 1, 40, -1, HomesickStamps::sheet, FORTY);
        refused("sheet(1) of none", -1, x -> x.sheet(1));
        faults("sheet(6)", -1006, x -> x.sheet(6), "5(3abt");
        faults("sheet(3)", -5002, x -> x.sheet(3), "(((a)))");
        faults("sheet(5)", -6000, x -> x.sheet(5), "7(7a)");
        HomesickStamps x = town(bytesOf("3atb2"));
        due("sheet(2)", x.sheet(2), 3);
        due("count(3)", x.count(3), 3);
        due("count(7)", x.count(7), 0);
        due("stampIs(2, 1)", x.stampIs(2, 1), 2);
        due("stampIs(3, 1)", x.stampIs(3, 1), -1);
    }

    private static void post() {
        sentence("A POST by the first n bytes of the tape (1 to 120; empty then): how many LINES; a FAULT; NONE: as"
            + " above.");
        bounds("post(n)", 1, 120, -1, HomesickStamps::post, FULL);
        bounds("post(n) of 20", 1, 20, -1, HomesickStamps::post, 1);
        bounds("post(n) of 40", 1, 40, -1, HomesickStamps::post, FORTY);
        refused("post(1) of none", -1, x -> x.post(1));
        faults("post(6)", -1006, x -> x.post(6), "0@1,1;0=5");
        faults("post(5)", -2004, x -> x.post(5), "0=100");
        faults("post(6)", -3002, x -> x.post(6), "0@24,1");
        faults("post(81)", -4080, x -> x.post(81), "0=9;".repeat(20) + "0");
        faults("post(9)", -7008, x -> x.post(9), "1@1,1;1+6");
        faults("post(3)", -7000, x -> x.post(3), "1=6");
        HomesickStamps x = town(bytesOf("0=56;0=7;9"));
        due("post(3)", x.post(3), 1);
        due("count(7)", x.count(7), 0);
        due("letterIs(0, 1)", x.letterIs(0, 1), 5);
        text(x, "0=56;0=7;9");
        due("post(8)", x.post(8), 2);
        due("letterIs(0, 1)", x.letterIs(0, 1), 7);
    }

    private static void days() {
        sentence("DAYS (1 to 100; as many as can) go by: how many steps all LETTERS went; NONE: no such n.");
        bounds("days(n)", 1, 100, -1, HomesickStamps::days, 1);
        HomesickStamps x = with("2a", "0@5,5;0+0;1@9,5;1+1", "p1(1=1)");
        due("days(1)", x.days(1), 2);
        due("count(0)", x.count(0), 1);
        due("days(100)", x.days(100), 4);
        due("count(0)", x.count(0), 101);
    }

    private static void tried() {
        sentence("DAYS (1 to 100; as many as can) that are tried, what 0 steps of all, 1 STAMPS that fall off, 2"
            + " LETTERS IN A WALL then (bits), 10 + l the PLACE (24 Y and X) of told LETTER l then, 20 + l how many"
            + " STAMPS are on it then, 100 + s USED of STAMP s then; NONE: no such ones.");
        bounds("tried(n, 0)", 1, 100, -1, (x, n) -> x.tried(n, 0), 1);
        bounds("tried(9, what)", 0, 2, -1, (x, what) -> x.tried(9, what), 1);
        bounds("tried(9, 10 + l)", 10, 17, -1, (x, what) -> x.tried(9, what), 1);
        bounds("tried(9, 20 + l)", 20, 27, -1, (x, what) -> x.tried(9, what), 1);
        bounds("tried(9, 100 + s)", 100, 105, -1, (x, what) -> x.tried(9, what), 1);
        int[] notTold = {11, 12, 14, 15, 16, 21, 22, 24, 25, 26};
        for (int what : notTold) {
            refused("tried(9, " + what + ")", -1, x -> x.tried(9, what), 1);
        }
    }

    private static void letterIs() {
        sentence("Of a told LETTER, what 0 PLACE (24 Y and X), 1 PASTE, 2 IN A WALL (1, 0), 3 how many STAMPS, 4 the"
            + " lowest one (-2: none), 5, 6 PLAIN PULLS of its STAMPS across, along (right, down more; told MINTS"
            + " alone); -1000: no such ones.");
        bounds("letterIs(l, 0)", 0, 7, -1000, (x, l) -> x.letterIs(l, 0), 1);
        bounds("letterIs(0, what)", 0, 6, -1000, (x, what) -> x.letterIs(0, what), 1);
        int[] notTold = {1, 2, 4, 5, 6};
        for (int l : notTold) {
            refused("letterIs(" + l + ", 0)", -1000, x -> x.letterIs(l, 0), 1);
        }
        HomesickStamps x = with("9e9e9e9e9ehda", "0@23,15;7@0,0", "p1(1=1)");
        due("letterIs(0, 4)", x.letterIs(0, 4), -2);
        due("post", post(x, "0+47;0+46;0+45;7+0"), 4);
        due("letterIs(0, 3)", x.letterIs(0, 3), 3);
        due("letterIs(0, 4)", x.letterIs(0, 4), 45);
        due("letterIs(7, 4)", x.letterIs(7, 4), 0);
        // h, e are not told; a and d lie to the left and above
        due("letterIs(0, 5)", x.letterIs(0, 5), -4);
        due("letterIs(0, 6)", x.letterIs(0, 6), -4);
        due("letterIs(7, 5)", x.letterIs(7, 5), 0);
        x.mint(4, 23, 15);
        due("letterIs(7, 5)", x.letterIs(7, 5), 2);
        due("letterIs(7, 6)", x.letterIs(7, 6), 2);
    }

    private static void stampIs() {
        sentence("Of a STAMP, what 0 MINT, 1 WHOLE 2, TORN 1, FALSE 0, 2 USED, 3 the LETTER (-2: none); NONE for"
            + " others.");
        bounds("stampIs(s, 0)", 0, 5, -1, (x, s) -> x.stampIs(s, 0), 1);
        bounds("stampIs(2, what)", 0, 3, -1, (x, what) -> x.stampIs(2, what), 1);
    }

    private static void comes() {
        sentence("COMES: a told LETTER to a PLACE (0 to 383) in n DAYS (1 to 100; 0: it is there); -2: not in these;"
            + " NONE: no such ones.");
        bounds("comes(l, 0, 9)", 0, 7, -1, (x, l) -> x.comes(l, 0, 9), 1);
        bounds("comes(0, place, 9)", 0, 383, -1, (x, place) -> x.comes(0, place, 9), 1);
        bounds("comes(0, 0, n)", 1, 100, -1, (x, n) -> x.comes(0, 0, n), 1);
        refused("comes(1, 0, 9)", -1, x -> x.comes(1, 0, 9), 1);
        refused("comes, where it is, in 0", -1, x -> x.comes(7, place(2, 2), 0), 1);
    }

    private static void atRest() {
        sentence("AT REST: a told LETTER in n DAYS (1 to 100); NONE: no such ones.");
        bounds("atRest(l, 9)", 0, 7, -1, (x, l) -> x.atRest(l, 9), 1);
        bounds("atRest(0, n)", 1, 100, -1, (x, n) -> x.atRest(0, n), 1);
        refused("atRest(1, 9)", -1, x -> x.atRest(1, 9), 1);
    }

    private static void meet() {
        sentence("MEET: two told LETTERS (not the same) in n DAYS (1 to 100; 0: now); -2: not in these; NONE: no such"
            + " ones.");
        bounds("meet(l, 3, 9)", 0, 7, -1, (x, l) -> x.meet(l, 3, 9), 1);
        bounds("meet(3, k, 9)", 0, 7, -1, (x, k) -> x.meet(3, k, 9), 1);
        bounds("meet(0, 3, n)", 1, 100, -1, (x, n) -> x.meet(0, 3, n), 1);
        refused("meet(1, 3, 9)", -1, x -> x.meet(1, 3, 9), 1);
        refused("meet(3, 1, 9)", -1, x -> x.meet(3, 1, 9), 1);
        int[] same = {0, 1, 3, 7};
        for (int l : same) {
            refused("meet(" + l + ", " + l + ", 9)", -1, x -> x.meet(l, l, 9), 1);
        }
    }

    private static void again() {
        sentence("AGAIN: a told LETTER in n DAYS (1 to 100); -2: never; NONE: no such ones.");
        bounds("again(l, 9)", 0, 7, -1, (x, l) -> x.again(l, 9), 1);
        bounds("again(0, n)", 1, 100, -1, (x, n) -> x.again(0, n), 1);
        refused("again(1, 9)", -1, x -> x.again(1, 9), 1);
    }

    private static void home() {
        sentence("HOME of a told LETTER, what 0 the MINT (no grain: -2), 1 how many grains; NONE: no such ones.");
        bounds("home(l, 0)", 0, 7, -1, (x, l) -> x.home(l, 0), 1);
        bounds("home(0, what)", 0, 1, -1, (x, what) -> x.home(0, what), 1);
        refused("home(1, 0)", -1, x -> x.home(1, 0), 1);
    }

    private static void lying() {
        sentence("LYING at a PLACE (0 to 383): bits; NONE: no such PLACE.");
        bounds("lying(place)", 0, 383, -1, HomesickStamps::lying, 1);
    }

    private static void stamped() {
        sentence("STAMPED by the first n bytes of the tape (STAMPS; n 1 to 9; empty then) from a PLACE to a PLACE (0 to"
            + " 383 each) in so many DAYS (0 to 60), what 0 how many, 1 which (bits); -2: it can't be; -3: a STAMP that"
            + " is not, one of a MINT that is not told; NONE: no such ones, it has not so many (the tape stays).");
        bounds("stamped(n, ..)", 1, 9, -1, (x, n) -> x.stamped(n, 5, 5, 5, 1), FORTY);
        bounds("stamped(.., from, ..)", 0, 383, -1, (x, from) -> x.stamped(2, from, 5, 5, 1), FORTY);
        bounds("stamped(.., to, ..)", 0, 383, -1, (x, to) -> x.stamped(2, 5, to, 5, 1), FORTY);
        bounds("stamped(.., days, ..)", 0, 60, -1, (x, days) -> x.stamped(2, 5, 5, days, 1), FORTY);
        bounds("stamped(.., what)", 0, 1, -1, (x, what) -> x.stamped(2, 5, 5, 5, what), FORTY);
        refused("stamped of none", -1, x -> x.stamped(1, 5, 5, 5, 1));
        changesNothing("stamped", 0, x -> x.stamped(5, 5, 5, 60, 1), 0, 1, 2, 3, 4);
        changesNothing("stamped", 1, x -> x.stamped(5, 0, 10, 10, 1), 3, 1, 2, 0, 4);
        changesNothing("stamped, can't be", -2, x -> x.stamped(5, 5, 383, 60, 1), 0, 1, 2, 3, 4);
        changesNothing("stamped, no MINT", -3, x -> x.stamped(6, 5, 5, 60, 1), 0, 1, 2, 3, 4, 5);
        changesNothing("stamped, no STAMP", -3, x -> x.stamped(6, 5, 5, 60, 1), 0, 1, 2, 3, 4, 6);
        // it is no matter what stands behind the first n
        changesNothing("stamped", 0, x -> x.stamped(5, 5, 5, 60, 1), 0, 1, 2, 3, 4, 6);
    }

    private static void hang() {
        sentence("HANG by the first n bytes of the tape likewise at a PLACE, what 0 ways, 1 which fewest (bits; -2:"
            + " none); -3: as above; NONE: no such ones, it has not so many (the tape stays).");
        bounds("hang(n, ..)", 1, 9, -1, (x, n) -> x.hang(n, 5, 1), FORTY);
        bounds("hang(.., place, ..)", 0, 383, -1, (x, place) -> x.hang(2, place, 1), FORTY);
        bounds("hang(.., what)", 0, 1, -1, (x, what) -> x.hang(2, 5, what), FORTY);
        refused("hang of none", -1, x -> x.hang(1, 5, 1));
        changesNothing("hang, ways", 0, x -> x.hang(2, 5, 0), 0, 1);
        changesNothing("hang, which", -2, x -> x.hang(2, 5, 1), 0, 1);
        changesNothing("hang, no MINT", -3, x -> x.hang(2, 5, 0), 0, 5);
        changesNothing("hang, no STAMP", -3, x -> x.hang(2, 5, 1), 0, 6);
    }

    private static void falseOnes() {
        sentence("FALSE ONES by the first n bytes of the tape likewise from a PLACE, steps across, along (-1 to 1"
            + " each), what 0 how many, 1 which (bits); -2: it can't be; -3: as above; NONE: no such ones, it has not"
            + " so many (the tape stays).");
        bounds("falseOnes(n, ..)", 1, 9, -1, (x, n) -> x.falseOnes(n, 5, 0, 0, 1), FORTY);
        bounds("falseOnes(.., place, ..)", 0, 383, -1, (x, place) -> x.falseOnes(2, place, 0, 0, 1), FORTY);
        bounds("falseOnes(.., across, ..)", -1, 1, -1, (x, across) -> x.falseOnes(2, 5, across, 0, 1), FORTY);
        bounds("falseOnes(.., along, ..)", -1, 1, -1, (x, along) -> x.falseOnes(2, 5, 0, along, 1), FORTY);
        bounds("falseOnes(.., what)", 0, 1, -1, (x, what) -> x.falseOnes(2, 5, 0, 0, what), FORTY);
        refused("falseOnes of none", -1, x -> x.falseOnes(1, 5, 0, 0, 1));
        changesNothing("falseOnes", 3, x -> x.falseOnes(2, 5, 0, 0, 1), 0, 1);
        changesNothing("falseOnes, can't be", -2, x -> x.falseOnes(2, 5, -1, 0, 1), 0, 1);
        changesNothing("falseOnes, no MINT", -3, x -> x.falseOnes(2, 5, 0, 0, 1), 0, 5);
        changesNothing("falseOnes, no STAMP", -3, x -> x.falseOnes(2, 5, 0, 0, 0), 0, 6);
    }

    private static void printed() {
        sentence("PRINTED by the first 3 n bytes of the tape (X, Y, which way; n 1 to 10; empty then): told MINTS"
            + " (bits); NONE: no such n, it has not so many (the tape stays).");
        bounds("printed(n)", 1, 10, -1, HomesickStamps::printed, FORTY);
        bounds("printed(n) of 20", 1, 6, -1, HomesickStamps::printed, 1);
        refused("printed of none", -1, x -> x.printed(1));
        // three times these, with 32 bits, would be 7 and 29
        refused("printed(-1431655763)", -1, x -> x.printed(-1431655763), FORTY);
        refused("printed(1431655775)", -1, x -> x.printed(1431655775), FORTY);
        changesNothing("printed", 15, x -> x.printed(1), 23, 15, 10);
    }

    private static void ship() {
        sentence("A SHIP by the first n bytes of the tape (n 1 to 10; empty then), what 0 how much, 1 which to the left"
            + " (bits); NONE: no such ones, it has not so many (the tape stays).");
        bounds("ship(n, 0)", 1, 10, -1, (x, n) -> x.ship(n, 0), FORTY);
        bounds("ship(2, what)", 0, 1, -1, (x, what) -> x.ship(2, what), FORTY);
        refused("ship of none", -1, x -> x.ship(1, 0));
        changesNothing("ship", 5, x -> x.ship(2, 0), 7, 12);
    }

    private static void mule() {
        sentence("A MULE by the first n bytes of the tape (n 1 to 12; empty then), so much (0 to 3060), what 0 how"
            + " many, 1 which (bits), 2 grains; -2: it can't be; NONE: no such ones, it has not so many (the tape"
            + " stays).");
        bounds("mule(n, 9, 0)", 1, 12, -1, (x, n) -> x.mule(n, 9, 0), FORTY);
        bounds("mule(2, much, 0)", 0, 3060, -1, (x, much) -> x.mule(2, much, 0), FORTY);
        bounds("mule(2, 9, what)", 0, 2, -1, (x, what) -> x.mule(2, 9, what), FORTY);
        refused("mule of none", -1, x -> x.mule(1, 0, 0));
        changesNothing("mule", 2, x -> x.mule(2, 8, 1), 7, 12);
        changesNothing("mule, can't be", -2, x -> x.mule(2, 20, 1), 7, 12);
    }

    private static void marks() {
        sentence("MARKS by the first n bytes of the tape (values; n 1 to 5; empty then), at most k (1 to 6): up to"
            + " which value; -2: a value of 0, above 100; NONE: no such ones, it has not so many (the tape stays).");
        bounds("marks(n, 2)", 1, 5, -1, (x, n) -> x.marks(n, 2), FORTY);
        bounds("marks(2, k)", 1, 6, -1, (x, k) -> x.marks(2, k), 1, 2);
        refused("marks of none", -1, x -> x.marks(1, 1));
        changesNothing("marks", 8, x -> x.marks(2, 4), 1, 2);
        changesNothing("marks, 0", -2, x -> x.marks(3, 4), 1, 2, 0);
        changesNothing("marks, 101", -2, x -> x.marks(3, 4), 1, 2, 101);
        // it is no matter what stands behind the first n
        changesNothing("marks", 8, x -> x.marks(2, 4), 1, 2, 101);
    }

    private static void franked() {
        sentence("The fewest stamps likewise for a value (1 to 600); -2: a value of 0, above 100; -3: it can't be;"
            + " NONE: no such ones, it has not so many (the tape stays).");
        bounds("franked(n, 9)", 1, 5, -1, (x, n) -> x.franked(n, 9), FORTY);
        bounds("franked(2, value)", 1, 600, -1, (x, value) -> x.franked(2, value), 2, 4);
        refused("franked of none", -1, x -> x.franked(1, 1));
        changesNothing("franked", 150, x -> x.franked(2, 600), 2, 4);
        changesNothing("franked, can't be", -3, x -> x.franked(2, 599), 2, 4);
        changesNothing("franked, 0", -2, x -> x.franked(2, 600), 2, 0);
        changesNothing("franked, 101", -2, x -> x.franked(2, 600), 101, 2);
    }

    private static void exchange() {
        sentence("EXCHANGE of n (2 to 6) by the first n n bytes of the tape (rows; empty then), whose stamp collector"
            + " what (0 to n - 1) gets; -2: a row that does not name each just once; NONE: no such ones, it has not so"
            + " many (the tape stays).");
        bounds("exchange(n, 0)", 2, 6, -1, (x, n) -> x.exchange(n, 0), FORTY);
        bounds("exchange(n, 0) of 20", 2, 4, -1, (x, n) -> x.exchange(n, 0), RING);
        bounds("exchange(3, what)", 0, 2, -1, (x, what) -> x.exchange(3, what), RING);
        refused("exchange of none", -1, x -> x.exchange(2, 0));
        // n times n, with 32 bits, would be 4
        refused("exchange(n, 0)", -1, x -> x.exchange(Integer.MIN_VALUE + 2, 0), RING);
        changesNothing("exchange", 1, x -> x.exchange(3, 0), RING);
        changesNothing("exchange, a wrong row", -2, x -> x.exchange(2, 0), RING);
    }

    private static void seed() {
        sentence("THE SEED (0 to 65535; X, too): true; false: no such number.");
        bounds("seed(x)", 0, 65535, 0, (x, v) -> bit(x.seed(v)), 1);
        HomesickStamps x = town();
        due("seed(65535)", x.seed(65535), true);
        due("count(8)", x.count(8), 65535);
        due("seed(65536)", x.seed(65536), false);
        due("seed(-1)", x.seed(-1), false);
        due("count(8)", x.count(8), 65535);
        due("seed(0)", x.seed(0), true);
        due("count(8)", x.count(8), 0);
    }

    private static void keepAndUndo() {
        sentence("UNDONE: true; false: none was KEPT.");
        HomesickStamps x = with("a", "0@5,5;0+0", "p1(1=1)");
        x.days(2);
        String before = portrait(x);
        due("undo()", x.undo(), false);
        same("undo()", portrait(x), before);
        sentence("KEPT: THE DAY.");
        due("keep()", x.keep(), 2);
        same("keep()", portrait(x), before);
        x.days(1);
        due("undo()", x.undo(), true);
        same("undo()", portrait(x), before);
    }

    private static void check() {
        sentence("CHECK by the first n bytes of the tape (0 to 8; empty then; of LETTERS that are not told 255): NONE:"
            + " right; else the first whose X is not so; -2: no such n, it has not so many (the tape stays).");
        bounds("check(n)", 0, 8, -2, HomesickStamps::check, FORTY);
        refused("check(1) of none", -2, x -> x.check(1));
        changesNothing("check(0)", -1, x -> x.check(0), FORTY);
        changesNothing("check(8)", -1, x -> x.check(8), 10, 255, 255, 11, 255, 255, 255, 2);
        changesNothing("check(8)", 7, x -> x.check(8), 10, 255, 255, 11, 255, 255, 255, 3);
    }

    private static void count() {
        sentence("0 THE DAY, 1 told MINTS (bits), 2 told LETTERS (bits), 3 STAMPS, 4 STAMPS on LETTERS, 5 WALLS, 6"
            + " RULES, 7 bytes of the tape, 8 X. NONE for others.");
        bounds("count(what)", 0, 8, -1, HomesickStamps::count, 1);
        HomesickStamps x = town(1);
        int[] counts = {6, 15, 0x89, 6, 6, 2, 3, 20};
        for (int what = 0; what < counts.length; what++) {
            due("count(" + what + ")", x.count(what), counts[what]);
        }
    }

    private static void refusedOnesTogether() {
        sentence("A call that is refused (NONE, false) changes nothing but the tape, where it is told.");
        // many refused calls one behind the other, then all is as without them
        HomesickStamps x = town(1, 2, 3);
        int no = bit(x.mint(8, 0, 0)) + x.law(21) + x.sheet(21) + x.post(21) + x.days(0) + x.tried(0, 0)
            + x.letterIs(1, 0) + x.stampIs(6, 0) + x.comes(1, 0, 1) + x.atRest(1, 1) + x.meet(0, 0, 1) + x.again(1, 1)
            + x.home(1, 0) + x.lying(384) + x.stamped(10, 0, 0, 0, 0) + x.hang(10, 0, 0) + x.falseOnes(10, 0, 0, 0, 0)
            + x.printed(7) + x.ship(11, 0) + x.mule(13, 0, 0) + x.marks(6, 1) + x.franked(6, 1) + x.exchange(5, 0)
            + bit(x.seed(65536)) + x.check(9) + x.count(9);
        // one answers -1000, one -2, and all others that give a number -1
        due("all of them", no, -1000 - 2 - 22);
        HomesickStamps y = town(1, 2, 3);
        due("count(7)", x.count(7), y.count(7));
        same("all of them", portrait(x), portrait(y));
        due("the tape", x.mule(3, 6, 2), 6);
        due("undo()", x.undo(), y.undo());
        same("undo()", portrait(x), portrait(y));
    }

    /** The call answers so and leaves the same, whatever stands on the tape behind these bytes. */
    private static void whateverIsBehind(String call, int want, Call asked, int... first) {
        int[] behind = {0, 1, 2, 5, 7, 100, 255, 'a', 't', 'f', '0', '5', '9', ')', '(', ';', ',', '+', '1'};
        String left = "";
        for (int each : behind) {
            int[] tape = Arrays.copyOf(first, 260);
            Arrays.fill(tape, first.length, 260, each);
            HomesickStamps x = town(tape);
            due(call + " with " + each + " behind it", asked.on(x), want);
            due(call + ", then count(7)", x.count(7), 0);
            left = left.isEmpty() ? portrait(x) : left;
            same(call + " with " + each + " behind it", portrait(x), left);
        }
    }

    private static void firstBytesOfTheTape() {
        sentence("by the first n bytes of the tape");
        whateverIsBehind("sheet(1)", 1, x -> x.sheet(1), 'a');
        whateverIsBehind("sheet(2)", 2, x -> x.sheet(2), '2', 'b');
        whateverIsBehind("sheet(1)", -1001, x -> x.sheet(1), '2');
        whateverIsBehind("sheet(2)", -1002, x -> x.sheet(2), '(', 'a');
        whateverIsBehind("post(3)", 1, x -> x.post(3), bytesOf("0=4"));
        whateverIsBehind("post(5)", 1, x -> x.post(5), bytesOf("0@1,1"));
        whateverIsBehind("post(4)", -1004, x -> x.post(4), bytesOf("0@1,"));
        whateverIsBehind("post(3)", -1003, x -> x.post(3), bytesOf("0@1"));
        whateverIsBehind("post(1)", -1001, x -> x.post(1), bytesOf("0"));
        whateverIsBehind("law(7)", 1, x -> x.law(7), bytesOf("h4(1=1)"));
        whateverIsBehind("law(6)", -1006, x -> x.law(6), bytesOf("h4(1=1"));
        whateverIsBehind("law(2)", -1002, x -> x.law(2), bytesOf("h4"));
        whateverIsBehind("law(1)", -1001, x -> x.law(1), bytesOf("p"));
        whateverIsBehind("stamped(2, ..)", 2, x -> x.stamped(2, place(5, 5), place(6, 5), 1, 1), 2, 0);
        whateverIsBehind("hang(3, ..)", 7, x -> x.hang(3, place(5, 5), 1), 2, 2, 0);
        whateverIsBehind("falseOnes(2, ..)", 2, x -> x.falseOnes(2, place(5, 5), -1, 0, 1), 2, 0);
        whateverIsBehind("printed(1)", 15, x -> x.printed(1), 23, 15, 10);
        whateverIsBehind("ship(3, 0)", 1, x -> x.ship(3, 0), 9, 4, 4);
        whateverIsBehind("ship(3, 1)", 1, x -> x.ship(3, 1), 9, 4, 4);
        whateverIsBehind("mule(3, 10, 1)", 3, x -> x.mule(3, 10, 1), 9, 4, 4);
        whateverIsBehind("mule(3, 18, 1)", -2, x -> x.mule(3, 18, 1), 9, 4, 4);
        whateverIsBehind("marks(2, 3)", 7, x -> x.marks(2, 3), 1, 3);
        whateverIsBehind("franked(2, 600)", 100, x -> x.franked(2, 600), 4, 6);
        whateverIsBehind("franked(2, 599)", -3, x -> x.franked(2, 599), 4, 6);
        whateverIsBehind("exchange(2, 0)", 1, x -> x.exchange(2, 0), 1, 0, 0, 1);
        whateverIsBehind("exchange(3, 2)", 0, x -> x.exchange(3, 2), RING);
        whateverIsBehind("check(1)", -1, x -> x.check(1), 10);
        whateverIsBehind("check(4)", 3, x -> x.check(4), 10, 255, 255, 10);
        whateverIsBehind("check(0)", -1, x -> x.check(0));
    }

    private static void lastCall() {
        sentence("An object is used for at most 512 calls after it has been made; what later calls answer is free.");
        HomesickStamps x = new HomesickStamps();
        int calls = 0;
        while (calls < 510) {
            due("feed", x.feed(0x61000000, 0, 0, 0, 0), 20);
            due("sheet(1)", x.sheet(1), 1);
            calls += 2;
        }
        due("the 511th", x.days(100), 0);
        due("the 512th", x.count(0), 100);
    }

    private static void itsOwnMemory() {
        sentence("All memory is the post's own.");
        HomesickStamps x = town(1, 2, 3);
        String before = portrait(x);
        HomesickStamps y = new HomesickStamps();
        due("count(1) of another", y.count(1), 0);
        due("undo() of another", y.undo(), false);
        y.mint(0, 3, 3);
        sheet(y, "9h");
        post(y, "0@9,9;0+0;#1,1");
        law(y, "p1(1=1)");
        y.days(5);
        y.keep();
        bytes(y, 9, 9, 9);
        same("another one's calls", portrait(x), before);
        due("the tape", x.mule(3, 6, 2), 6);
        due("the tape of another", y.mule(3, 27, 2), 27);
        same("another one's calls", portrait(x), before);
    }
}
