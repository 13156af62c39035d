/** What bounds A SHEET: its bytes, its STAMPS, each of its FAULTS with its place. */
public final class SheetBounds extends Bench {
    private static final String FAULT_ONE = "1 what can't stand there (the end, too)";
    private static final String FORTY_SEVEN = "a".repeat(47);
    private static final String FORTY_EIGHT = "a".repeat(48);

    public static void main(String[] args) {
        sixtyBytes();
        noBlanks();
        letterAndSign();
        digits();
        rounds();
        fortyEight();
        firstFromTheLeft();
        theEnd();
        whatCantStand();
        thirdOpen();
        tooMany();
        askedWhenItEnds();
        allStampsAheadAreNoMore();
        mintsNeedNotBeTold();
        finish();
    }

    /** A LETTER with two STAMPS, USED 3 each. */
    private static HomesickStamps begun() {
        HomesickStamps x = with("ab", "0@5,5;0+0;0+1;0=7", "h3(1=1)");
        x.days(1);
        return x;
    }

    /** Behind a FAULT all stays, what stood on the tape aside; another SHEET ends what was. */
    private static HomesickStamps reads(String text, int want) {
        HomesickStamps x = begun();
        due("sheet " + text, sheet(x, text), want);
        due("sheet " + text + ", then count(7)", x.count(7), 0);
        if (want < 0) {
            same("sheet " + text, portrait(x), portrait(begun()));
        } else {
            due("sheet " + text + ", then count(3)", x.count(3), want);
            due("sheet " + text + ", then count(4)", x.count(4), 0);
        }
        return x;
    }

    private static void sixtyBytes() {
        sentence("A SHEET: a TEXT of at most 60 bytes");
        String sixty = "a".repeat(36) + "bt".repeat(12);
        due("length", sixty.length(), 60);
        HomesickStamps x = reads(sixty, 48);
        due("stampIs(47, 1)", x.stampIs(47, 1), 1);
        x = begun();
        text(x, sixty + "b");
        due("sheet(61)", x.sheet(61), -1);
        due("count(7)", x.count(7), 80);
        due("count(3)", x.count(3), 2);
        due("sheet(60)", x.sheet(60), 48);
        due("count(7)", x.count(7), 0);
        reads("a".repeat(35) + "bt".repeat(12) + "x", -1059);
        reads("a".repeat(35) + "bt".repeat(12) + "(", -1060);
        reads("a", 1);
    }

    private static void noBlanks() {
        sentence("A SHEET: a TEXT of at most 60 bytes, no blanks");
        char[] blanks = {' ', '\t', '\n', '\r', 0, 160};
        for (char blank : blanks) {
            reads(blank + "a", -1000);
            reads("a" + blank + "b", -1001);
            reads("a" + blank, -1001);
            reads("2" + blank + "a", -1001);
            reads("a" + blank + "t", -1001);
            reads("(" + blank + "a)", -1001);
            reads("(a" + blank + ")", -1002);
            reads("(a)" + blank, -1003);
        }
    }

    private static void letterAndSign() {
        sentence("a letter a to h, then perhaps t (torn) or f (false)");
        HomesickStamps x = reads("ahhtff", 4);
        int[] mints = {0, 7, 7, 5};
        int[] grains = {2, 2, 1, 0};
        for (int s = 0; s < 4; s++) {
            due("stampIs(" + s + ", 0)", x.stampIs(s, 0), mints[s]);
            due("stampIs(" + s + ", 1)", x.stampIs(s, 1), grains[s]);
        }
        reads("`", -1000);
        reads("i", -1000);
        reads("A", -1000);
        reads("H", -1000);
        reads("t", -1000);
        reads("as", -1001);
        reads("au", -1001);
        reads("aT", -1001);
        reads("att", -1002);
        reads("aft", -1002);
        // behind the one sign f is the next STAMP's MINT
        x = reads("atf", 2);
        due("stampIs(1, 0)", x.stampIs(1, 0), 5);
        x = reads("aff", 2);
        due("stampIs(0, 1)", x.stampIs(0, 1), 0);
        due("stampIs(1, 1)", x.stampIs(1, 1), 2);
    }

    private static void digits() {
        sentence("ahead of it perhaps a digit 2 to 9 (so many)");
        for (int many = 2; many <= 9; many++) {
            HomesickStamps x = reads(many + "ctb", many + 1);
            due("stampIs(" + (many - 1) + ", 1)", x.stampIs(many - 1, 1), 1);
            due("stampIs(" + many + ", 0)", x.stampIs(many, 0), 1);
        }
        reads("0a", -1000);
        reads("1a", -1000);
        reads("/a", -1000);
        reads(":a", -1000);
        reads("22a", -1001);
        reads("20a", -1001);
        reads("2", -1001);
        reads("a2", -1002);
        reads("2t", -1001);
    }

    private static void rounds() {
        sentence("or (STAMPS), ahead of it perhaps a digit 2 to 9 (so many times)");
        HomesickStamps x = reads("(ab)", 2);
        due("stampIs(1, 0)", x.stampIs(1, 0), 1);
        for (int times = 2; times <= 9; times++) {
            x = reads(times + "(abt)c", 2 * times + 1);
            for (int s = 0; s < 2 * times; s++) {
                due("stampIs(" + s + ", 0)", x.stampIs(s, 0), s % 2);
                due("stampIs(" + s + ", 1)", x.stampIs(s, 1), 2 - s % 2);
            }
            due("stampIs(" + 2 * times + ", 0)", x.stampIs(2 * times, 0), 2);
        }
        reads("0(a)", -1000);
        reads("1(a)", -1000);
        reads("22(a)", -1001);
        reads("()", -1001);
        reads("2()", -1002);
        reads("(a)t", -1003);
        reads("(a)f", 2);
    }

    private static void fortyEight() {
        sentence("48 at most in all.");
        String[] all = {FORTY_EIGHT, "6(8a)", "8(6at)", "2(3(8a))", "(6(8a))", "9a9a9a9a9a3a", "5(9a)(3a)",
            "5(9a)2(at)b", "4(4(3a))", "3a5(9a)", FORTY_SEVEN + "b", FORTY_SEVEN + "(b)", FORTY_SEVEN + "((bf))"};
        for (String text : all) {
            HomesickStamps x = reads(text, 48);
            due("stampIs(47, 3)", x.stampIs(47, 3), -2);
            due("stampIs(48, 3)", x.stampIs(48, 3), -1);
        }
        reads(FORTY_SEVEN, 47);
        reads(FORTY_EIGHT + "a", -6048);
        reads("7(7a)", -6000);
    }

    private static void firstFromTheLeft() {
        sentence("FAULTS, the first from the left");
        reads("ax(((", -1001);
        reads("(((x", -5002);
        reads(FORTY_EIGHT + "bx", -6048);
        reads(FORTY_EIGHT + "b(((", -6048);
        reads(FORTY_EIGHT + "x", -1048);
        reads(FORTY_EIGHT + "(((b", -5050);
    }

    private static void theEnd() {
        sentence(FAULT_ONE);
        reads("2", -1001);
        reads("(", -1001);
        reads("2(", -1002);
        reads("(a", -1002);
        reads("(a2", -1003);
        reads("(at", -1003);
        reads("((a)", -1004);
        reads("((a)b", -1005);
        reads("a9", -1002);
    }

    private static void whatCantStand() {
        sentence(FAULT_ONE);
        reads(")", -1000);
        reads("a)", -1001);
        reads("(a))", -1003);
        reads("2)", -1001);
        reads("(2)", -1002);
        reads("((a)2)", -1005);
        char[] others = {'*', ',', ';', 'T', 'i', 'z', 127, 128, 225, 255};
        for (char other : others) {
            reads(other + "a", -1000);
            reads("a" + other, -1001);
            reads("2" + other, -1001);
            reads("(" + other, -1001);
            reads("(a" + other, -1002);
        }
    }

    private static void thirdOpen() {
        sentence("5 a third ( that is open in another one, at it");
        reads("((a))", 1);
        reads("(((a)))", -5002);
        reads("((2(a)))", -5003);
        reads("2(2(2(a)))", -5005);
        reads("((((a))))", -5002);
        reads("((", -1002);
        reads("(((", -5002);
        // those that are closed are open no more
        reads("((a)(b))((c)(d))", 4);
        reads("(a(b)(c(", -5007);
        reads("(a)(b)(c)", 3);
    }

    private static void tooMany() {
        sentence("6 more than 48, at the first byte of what (or its digit) by which they are");
        reads(FORTY_EIGHT + "b", -6048);
        reads(FORTY_EIGHT + "2b", -6048);
        reads(FORTY_SEVEN + "2b", -6047);
        reads(FORTY_SEVEN + "2(b)", -6047);
        reads("a".repeat(46) + "(bc)d", -6050);
        reads("9a9a9a9a9a4a", -6010);
        reads("7(7a)", -6000);
        reads("2(5(5a))", -6000);
        reads("b7(7a)", -6001);
        reads("b2(5(5a))", -6001);
        reads("8(6atb)", -6000);
    }

    private static void askedWhenItEnds() {
        sentence("(asked when it ends; of an inner one first)");
        // the sign belongs to it
        reads(FORTY_EIGHT + "bt", -6048);
        reads(FORTY_EIGHT + "bf", -6048);
        // a round that does not end is not asked
        reads("7(7a", -1004);
        reads("7(7ax", -1004);
        reads("7(7a(", -1005);
        reads(FORTY_SEVEN + "2(b", -1050);
        reads(FORTY_EIGHT + "2", -1049);
        reads(FORTY_EIGHT + "2x", -1049);
        // inner ones end first
        reads("(7(7a))", -6001);
        reads("9(9(9a))", -6002);
        reads("9(9(9a", -1006);
        reads("9(9(9a)", -6002);
        reads(FORTY_EIGHT + "(b)", -6049);
        reads(FORTY_EIGHT + "2((b))", -6051);
        reads(FORTY_EIGHT + "2(b", -6050);
        reads("5(9a)2(4a)", -6007);
        reads("5(9a)2(3a)", -6005);
    }

    private static void allStampsAheadAreNoMore() {
        sentence("All STAMPS ahead are no more; LETTERS have none then");
        HomesickStamps x = reads("cdtb", 3);
        int[] mints = {2, 3, 1};
        for (int s = 0; s < 3; s++) {
            due("stampIs(" + s + ", 0)", x.stampIs(s, 0), mints[s]);
            due("stampIs(" + s + ", 2)", x.stampIs(s, 2), 0);
            due("stampIs(" + s + ", 3)", x.stampIs(s, 3), -2);
        }
        due("letterIs(0, 0)", x.letterIs(0, 0), place(5, 5));
        due("letterIs(0, 1)", x.letterIs(0, 1), 7);
        due("letterIs(0, 3)", x.letterIs(0, 3), 0);
        due("letterIs(0, 4)", x.letterIs(0, 4), -2);
        due("count(0)", x.count(0), 1);
        due("count(6)", x.count(6), 1);
        // the same SHEET once more is a new one, too
        x = reads("ab", 2);
        due("stampIs(0, 2)", x.stampIs(0, 2), 0);
        due("stampIs(0, 3)", x.stampIs(0, 3), -2);
        // fewer: those behind are not there
        x = reads("a", 1);
        due("stampIs(1, 0)", x.stampIs(1, 0), -1);
        due("post 0+1", post(x, "0+1"), -7002);
    }

    private static void mintsNeedNotBeTold() {
        sentence("MINTS need not be told yet.");
        HomesickStamps x = new HomesickStamps();
        due("sheet ha", sheet(x, "ha"), 2);
        due("stampIs(0, 0)", x.stampIs(0, 0), 7);
        post(x, "0@5,5;0+0");
        law(x, "p1(1=1)");
        due("tried(3, 0)", x.tried(3, 0), 0);
        x.mint(7, 9, 5);
        due("tried(3, 0)", x.tried(3, 0), 3);
    }
}
