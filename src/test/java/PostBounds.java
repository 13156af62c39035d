/** What bounds A POST: its bytes, LINES and numbers, each of its FAULTS with its place. */
public final class PostBounds extends Bench {
    private static final String TWENTY_LINES = "0=5;".repeat(20);

    public static void main(String[] args) {
        hundredAndTwentyBytes();
        noBlanks();
        twentyLines();
        lettersDigit();
        laying();
        sticking();
        peeling();
        pasting();
        walls();
        theEnd();
        whatCantStand();
        thirdDigit();
        beyondTheMap();
        twentyFirstLine();
        lettersNotTold();
        stampsThatAreNot();
        nothingIsDone();
        finish();
    }

    /** Nine STAMPS; LETTER 0 with STAMP 0 and PASTE 3, LETTER 2 with STAMP 8, IN A WALL; a WALL. */
    private static HomesickStamps begun() {
        HomesickStamps x = with("9a", "0@3,4;0+0;0=3;2@9,5;2+8;#10,5", "p2(1=1)");
        x.days(1);
        return x;
    }

    /** Behind a FAULT nothing is done, the tape aside. */
    private static HomesickStamps reads(String text, int want) {
        HomesickStamps x = begun();
        due("post " + text, post(x, text), want);
        due("post " + text + ", then count(7)", x.count(7), 0);
        if (want < 0) {
            same("post " + text, portrait(x), portrait(begun()));
        }
        return x;
    }

    private static void hundredAndTwentyBytes() {
        sentence("A POST: a TEXT of at most 120 bytes");
        String all = "#1,15;".repeat(19) + "0@2,15";
        due("length", all.length(), 120);
        HomesickStamps x = reads(all, 20);
        due("letterIs(0, 0)", x.letterIs(0, 0), place(2, 15));
        due("count(5)", x.count(5), 2);
        x = begun();
        text(x, all + "x");
        due("post(121)", x.post(121), -1);
        due("count(7)", x.count(7), 140);
        due("letterIs(0, 0)", x.letterIs(0, 0), place(3, 4));
        due("post(120)", x.post(120), 20);
        due("letterIs(0, 0)", x.letterIs(0, 0), place(2, 15));
        reads("#1,15;".repeat(19) + "0@2,1x", -1119);
        reads("#1,15;".repeat(18) + "#10,15;0@23,", -1120);
    }

    private static void noBlanks() {
        sentence("A POST: a TEXT of at most 120 bytes, no blanks");
        char[] blanks = {' ', '\t', '\n', '\r', 0, 160};
        for (char blank : blanks) {
            reads(blank + "0=1", -1000);
            reads("0" + blank + "=1", -1001);
            reads("0=" + blank + "1", -1002);
            reads("0=1" + blank, -1003);
            reads("0=1;" + blank + "0=2", -1004);
            reads("0@1" + blank + ",2", -1003);
            reads("0@1," + blank + "2", -1004);
            reads("#" + blank + "1,2", -1001);
        }
    }

    private static void twentyLines() {
        sentence("LINES with a ; (59) between two (20 at most)");
        HomesickStamps x = reads("0=1", 1);
        due("letterIs(0, 1)", x.letterIs(0, 1), 1);
        x = reads("0=5;".repeat(19) + "0=6", 20);
        due("letterIs(0, 1)", x.letterIs(0, 1), 6);
        x = reads("0=5;".repeat(18) + "0=7", 19);
        due("letterIs(0, 1)", x.letterIs(0, 1), 7);
        reads(TWENTY_LINES + "0=6", -4080);
        reads(";0=1", -1000);
        reads("0=1;;0=2", -1004);
        reads("0=1;", -1004);
        reads("0=1:0=2", -1003);
        reads("0=1<0=2", -1003);
    }

    private static void lettersDigit() {
        sentence("a digit 0 to 7 (LETTER)");
        HomesickStamps x = reads("0@1,1;7@2,2", 2);
        due("count(2)", x.count(2), 0x85);
        due("letterIs(7, 0)", x.letterIs(7, 0), place(2, 2));
        reads("8@1,1", -1000);
        reads("9@1,1", -1000);
        reads("/@1,1", -1000);
        reads("00@1,1", -1001);
        reads("-1@1,1", -1000);
    }

    private static void laying() {
        sentence("@ X , Y (it is told, lies there, IN no WALL; its STAMPS, PASTE stay; numbers of one or two digits)");
        HomesickStamps x = reads("0@0,0", 1);
        due("letterIs(0, 0)", x.letterIs(0, 0), 0);
        due("letterIs(0, 1)", x.letterIs(0, 1), 3);
        due("letterIs(0, 3)", x.letterIs(0, 3), 1);
        x = reads("0@23,15", 1);
        due("letterIs(0, 0)", x.letterIs(0, 0), 383);
        x = reads("0@09,05", 1);
        due("letterIs(0, 0)", x.letterIs(0, 0), place(9, 5));
        due("letterIs(2, 2)", x.letterIs(2, 2), 1);
        // the same PLACE again: IN no WALL; laid into one: IN none, either
        x = reads("2@9,5", 1);
        due("letterIs(2, 2)", x.letterIs(2, 2), 0);
        due("letterIs(2, 3)", x.letterIs(2, 3), 1);
        x = reads("2@10,5", 1);
        due("letterIs(2, 2)", x.letterIs(2, 2), 0);
        due("letterIs(2, 0)", x.letterIs(2, 0), place(10, 5));
        reads("1@24,0", -3002);
        reads("1@0,16", -3004);
    }

    private static void sticking() {
        sentence("+ and a number (a STAMP comes on it, off any other one)");
        HomesickStamps x = reads("0+8", 1);
        due("stampIs(8, 3)", x.stampIs(8, 3), 0);
        due("letterIs(2, 3)", x.letterIs(2, 3), 0);
        due("letterIs(0, 3)", x.letterIs(0, 3), 2);
        due("count(4)", x.count(4), 2);
        x = reads("0+0", 1);
        due("letterIs(0, 3)", x.letterIs(0, 3), 1);
        x = reads("2+00;2+08;2+07", 3);
        due("letterIs(2, 3)", x.letterIs(2, 3), 3);
        due("letterIs(2, 4)", x.letterIs(2, 4), 0);
        due("letterIs(0, 4)", x.letterIs(0, 4), -2);
        reads("0+9", -7002);
    }

    private static void peeling() {
        sentence("- and a number (a STAMP comes off it; if it is on it)");
        HomesickStamps x = reads("0-0", 1);
        due("stampIs(0, 3)", x.stampIs(0, 3), -2);
        due("letterIs(0, 3)", x.letterIs(0, 3), 0);
        x = reads("2-0;0-8;0-1", 3);
        due("stampIs(0, 3)", x.stampIs(0, 3), 0);
        due("stampIs(8, 3)", x.stampIs(8, 3), 2);
        due("stampIs(1, 3)", x.stampIs(1, 3), -2);
        due("count(4)", x.count(4), 2);
        x = reads("0-0;0-0", 2);
        due("count(4)", x.count(4), 1);
        reads("0-9", -7002);
    }

    private static void pasting() {
        sentence("= and a number (PASTE)");
        HomesickStamps x = reads("0=99;2=0", 2);
        due("letterIs(0, 1)", x.letterIs(0, 1), 99);
        due("letterIs(2, 1)", x.letterIs(2, 1), 0);
        x = reads("0=00;2=07", 2);
        due("letterIs(0, 1)", x.letterIs(0, 1), 0);
        due("letterIs(2, 1)", x.letterIs(2, 1), 7);
        reads("0=100", -2004);
        reads("0=-1", -1002);
    }

    private static void walls() {
        sentence("# X , Y (35: a WALL there, or, if there is one, none)");
        HomesickStamps x = reads("#0,0;#23,15", 2);
        due("count(5)", x.count(5), 3);
        x = reads("#10,5", 1);
        due("count(5)", x.count(5), 0);
        due("letterIs(2, 2)", x.letterIs(2, 2), 1);
        x = reads("#10,5;#10,05", 2);
        due("count(5)", x.count(5), 1);
        reads("#24,0", -3001);
        reads("#0,16", -3003);
        reads("\"1,1", -1000);
        reads("$1,1", -1000);
    }

    private static void theEnd() {
        sentence("FAULTS: 1 what can't stand there (the end, too); 2 a third digit, at it");
        reads("0", -1001);
        reads("0@", -1002);
        reads("0@1", -1003);
        reads("0@23", -1004);
        reads("0@1,", -1004);
        reads("0@23,", -1005);
        reads("0+", -1002);
        reads("0-", -1002);
        reads("0=", -1002);
        reads("#", -1001);
        reads("#1", -1002);
        reads("#1,", -1003);
        reads("0=1;", -1004);
        reads("0=1;0", -1005);
        // a LETTER that is not told is asked about when its sign has been read
        reads("1", -1001);
        reads("1@", -1002);
    }

    private static void whatCantStand() {
        sentence("FAULTS: 1 what can't stand there (the end, too); 2 a third digit, at it");
        char[] others = {'x', '(', 'A', '~', 127, 128, 176, 255};
        for (char other : others) {
            reads(other + "", -1000);
            reads("0" + other, -1001);
            reads("1" + other, -1001);
            reads("0@" + other, -1002);
            reads("0@1" + other, -1003);
            reads("0@23" + other, -1004);
            reads("0@1," + other, -1004);
            reads("0@1,2" + other, -1005);
            reads("0+" + other, -1002);
            reads("0+1" + other, -1003);
            reads("0-1" + other, -1003);
            reads("0=99" + other, -1004);
            reads("#" + other, -1001);
            reads("#1" + other, -1002);
            reads("#1,1" + other, -1004);
            reads("0=1;" + other, -1004);
        }
        reads("#1,1,1", -1004);
        reads("#1;1", -1002);
        reads("0@-1,1", -1002);
    }

    private static void thirdDigit() {
        sentence("2 a third digit, at it");
        reads("0@100,1", -2004);
        reads("0@001,1", -2004);
        reads("0@240,1", -2004);
        reads("0@1,100", -2006);
        reads("0@1,000", -2006);
        reads("0@01,001", -2007);
        reads("0+000", -2004);
        reads("0+990", -2004);
        reads("0-000", -2004);
        reads("0=000", -2004);
        reads("0=0000", -2004);
        reads("0=009", -2004);
        reads("0@1,009", -2006);
        reads("#000,1", -2003);
        reads("#1,000", -2005);
        reads("#12,123", -2006);
    }

    private static void beyondTheMap() {
        sentence("3 X above 23, Y above 15, at its first digit (asked when it ends)");
        reads("0@23,15", 1);
        reads("0@24,15", -3002);
        reads("0@23,16", -3005);
        reads("0@99,99", -3002);
        reads("0@1,99", -3004);
        reads("#23,15", 1);
        reads("#24,15", -3001);
        reads("#23,16", -3004);
        // its end is known by the next byte, whichever that is
        reads("0@24", -3002);
        reads("0@24x", -3002);
        reads("0@240", -2004);
        reads("0@1,16x", -3004);
        reads("0@1,160", -2006);
        reads("0@2", -1003);
        // a number for PASTE or a STAMP is none of THE MAP
        reads("0=24", 1);
        reads("0=16", 1);
    }

    private static void twentyFirstLine() {
        sentence("4 a 21st LINE, at its first byte (if that can stand there)");
        reads(TWENTY_LINES + "0", -4080);
        reads(TWENTY_LINES + "7", -4080);
        reads(TWENTY_LINES + "#", -4080);
        reads(TWENTY_LINES + "1+", -4080);
        reads(TWENTY_LINES + "0x", -4080);
        reads(TWENTY_LINES + "8", -1080);
        reads(TWENTY_LINES + ";", -1080);
        reads(TWENTY_LINES + "@", -1080);
        reads(TWENTY_LINES, -1080);
        reads("0=5;".repeat(19) + "0=55x", -1080);
    }

    private static void lettersNotTold() {
        sentence("7 a LETTER that is not told (but with @; by LINES ahead, too), at its digit (asked when its sign has"
            + " been read)");
        reads("1+0", -7000);
        reads("1-0", -7000);
        reads("1=5", -7000);
        reads("7=5", -7000);
        reads("1+", -7000);
        reads("1-", -7000);
        reads("1=x", -7000);
        reads("1+99", -7000);
        reads("1=100", -7000);
        reads("1x", -1001);
        reads("0=1;1=1", -7004);
        HomesickStamps x = reads("1@4,4;1+1;1=9", 3);
        due("letterIs(1, 1)", x.letterIs(1, 1), 9);
        due("letterIs(1, 4)", x.letterIs(1, 4), 1);
        due("post 1=8", post(x, "1=8"), 1);
        due("letterIs(1, 1)", x.letterIs(1, 1), 8);
        // told by a LINE behind it, or by a POST with a FAULT: not told
        reads("1=1;1@4,4", -7000);
        x = reads("1@4,4;1+9", -7008);
        due("post 1=1", post(x, "1=1"), -7000);
        // another LETTER's LINE does not tell it
        reads("3@1,1;1=1", -7006);
    }

    private static void stampsThatAreNot() {
        sentence("a STAMP that is not, at its first digit (asked when it ends)");
        reads("0+8", 1);
        reads("0+08", 1);
        reads("0+9", -7002);
        reads("0+09", -7002);
        reads("0+99", -7002);
        reads("0-8", 1);
        reads("0-9", -7002);
        reads("0+9x", -7002);
        reads("0+10x", -7002);
        reads("0+8x", -1003);
        reads("0+100", -2004);
        reads("0=1;2-10", -7006);
        HomesickStamps x = new HomesickStamps();
        due("no SHEET yet", post(x, "0@1,1;0+0"), -7008);
        due("count(2)", x.count(2), 0);
        sheet(x, "6(8a)");
        due("the last of 48", post(x, "0@1,1;0+47"), 2);
        due("one more", post(x, "0+48"), -7002);
        due("letterIs(0, 4)", x.letterIs(0, 4), 47);
    }

    private static void nothingIsDone() {
        sentence("Nothing is done by a POST with a FAULT.");
        String eight = "0@9,9;0+5;0-0;0=50;2@1,1;7@2,2;#1,1;#10,5";
        int ninth = eight.length() + 1;
        reads(eight + ";0", -1000 - ninth - 1);
        reads(eight + ";0+9", -7000 - ninth - 2);
        reads(eight + ";1+0", -7000 - ninth);
        reads(eight + ";#24,1", -3000 - ninth - 1);
        reads(eight + ";0=100", -2000 - ninth - 4);
        HomesickStamps x = reads(eight, 8);
        due("letterIs(0, 0)", x.letterIs(0, 0), place(9, 9));
        due("letterIs(0, 1)", x.letterIs(0, 1), 50);
        due("letterIs(0, 4)", x.letterIs(0, 4), 5);
        due("count(2)", x.count(2), 0x85);
        due("count(5)", x.count(5), 1);
    }
}
