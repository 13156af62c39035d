/** What bounds THE LAW: its bytes, RULES and numbers, how it reckons, each of its FAULTS with its place. */
public final class LawBounds extends Bench {
    private static final String FAULT_ONE = "FAULTS, the first from the left: 1 what can't stand there (the end, too);"
        + " 2 a sixth digit, at it";
    private static final String SIXTEEN = "x(1=2);".repeat(15) + "h5(1=1)";

    public static void main(String[] args) {
        twoHundredAndFortyBytes();
        noBlanks();
        noneAtFirst();
        sixteenRules();
        lettersOfRules();
        boundsOfPulls();
        boundsOfUse();
        fallingOff();
        firstThatHolds();
        comparisons();
        conditions();
        fromTheLeftOn();
        numbers();
        facts();
        thirtyTwoBits();
        dividedByZero();
        asMuchAsMatters();
        theEnd();
        whatCantStand();
        sixthDigit();
        seventeenthRule();
        seventhOpen();
        ruleStandsAhead();
        inPlaceOfTheOneBefore();
        refusedAgainAndAgain();
        finish();
    }

    /** A LETTER with three STAMPS under a LAW of two RULES. */
    private static HomesickStamps begun() {
        HomesickStamps x = with("2abt", "0@5,5;0+0;0+1;0+2;0=1", "pg(1=1);h3(s=1)");
        x.days(2);
        return x;
    }

    /** Behind a FAULT the one before stays, what stood on the tape aside. */
    private static HomesickStamps reads(String text, int want) {
        HomesickStamps x = begun();
        due("law " + text, law(x, text), want);
        due("law " + text + ", then count(7)", x.count(7), 0);
        if (want < 0) {
            same("law " + text, portrait(x), portrait(begun()));
            due("law " + text + ", then tried(1, 101)", x.tried(1, 101), 9);
        } else {
            due("law " + text + ", then count(6)", x.count(6), want);
        }
        return x;
    }

    private static void twoHundredAndFortyBytes() {
        sentence("THE LAW: a TEXT of at most 240 bytes");
        String most = "h0" + "+0".repeat(115) + "+7(1=01";
        String all = most + ")";
        due("length", all.length(), 240);
        HomesickStamps x = reads(all, 1);
        due("tried(1, 100)", x.tried(1, 100), 7);
        x = begun();
        text(x, all + ";");
        due("law(241)", x.law(241), -1);
        due("count(7)", x.count(7), 260);
        due("count(6)", x.count(6), 2);
        due("law(240)", x.law(240), 1);
        due("tried(1, 100)", x.tried(1, 100), 7);
        reads(most + "x", -1239);
        reads(most + "1", -1240);
    }

    private static void noBlanks() {
        sentence("THE LAW: a TEXT of at most 240 bytes, no blanks");
        char[] blanks = {' ', '\t', '\n', '\r', 0, 160};
        for (char blank : blanks) {
            reads(blank + "p1(1=1)", -1000);
            reads("p" + blank + "1(1=1)", -1001);
            reads("p1" + blank + "(1=1)", -1002);
            reads("p1(" + blank + "1=1)", -1003);
            reads("p1(1" + blank + "=1)", -1004);
            reads("p1(1=" + blank + "1)", -1005);
            reads("p1(1=1" + blank + ")", -1006);
            reads("p1(1=1)" + blank, -1007);
            reads("p1(1=1);" + blank + "x(1=1)", -1008);
            reads("x" + blank + "(1=1)", -1001);
        }
    }

    private static void noneAtFirst() {
        sentence("(none at first)");
        HomesickStamps x = withMints();
        due("count(6)", x.count(6), 0);
        sheet(x, "2a");
        post(x, "0@5,5;0+0;0+1");
        due("days(5)", x.days(5), 0);
        due("stampIs(0, 2)", x.stampIs(0, 2), 0);
        due("count(4)", x.count(4), 2);
        due("count(0)", x.count(0), 5);
    }

    private static void sixteenRules() {
        sentence("RULES (16 at most) with a ; (59) between two");
        HomesickStamps x = reads(SIXTEEN, 16);
        due("tried(1, 100)", x.tried(1, 100), 5);
        x = reads("x(1=2);".repeat(14) + "h6(1=1)", 15);
        due("tried(1, 100)", x.tried(1, 100), 6);
        reads(SIXTEEN + ";x(1=1)", -4113);
        reads("x(1=1)", 1);
        reads(";x(1=1)", -1000);
        reads("x(1=1);;x(1=1)", -1007);
        reads("x(1=1);", -1007);
        reads("x(1=1):x(1=1)", -1006);
        reads("x(1=1)<x(1=1)", -1006);
    }

    private static void lettersOfRules() {
        sentence("a letter, E, and (C), of x only (C)");
        reads("p1(1=1);h1(1=1);x(1=1)", 3);
        String[] others = {"o1(1=1)", "q1(1=1)", "g1(1=1)", "i1(1=1)", "w(1=1)", "y(1=1)", "P1(1=1)", "H1(1=1)",
            "X(1=1)", "1(1=1)", "(1=1)"};
        for (String text : others) {
            reads(text, -1000);
        }
        reads("p(1=1)", -1001);
        reads("h(1=1)", -1001);
        reads("x1(1=1)", -1001);
        reads("xs(1=1)", -1001);
    }

    /** How hard a STAMP pulls by that E: so much PASTE holds it, a grain less does not. */
    private static void pulls(String e, int want) {
        HomesickStamps x = with("a", "0@5,5;0+0;0=" + want, "p" + e + "(1=1)");
        due("p" + e + " against PASTE " + want, x.tried(1, 0), 0);
        if (want > 0) {
            post(x, "0=" + (want - 1));
            due("p" + e + " against PASTE " + (want - 1), x.tried(1, 0), 1);
        }
    }

    private static void boundsOfPulls() {
        sentence("p grains that a STAMP pulls (0 to 99)");
        pulls("0", 0);
        pulls("1", 1);
        pulls("98", 98);
        pulls("99", 99);
        pulls("100", 99);
        pulls("99999", 99);
        pulls("0-1", 0);
        pulls("0-99", 0);
        pulls("65536*32768", 0);
        pulls("65536*32768-1", 99);
        // one below 0 does not pull the other way
        HomesickStamps x = with("a", "0@5,5;0+0", "p0-9(1=1)");
        due("tried(5, 0)", x.tried(5, 0), 0);
    }

    private static void boundsOfUse() {
        sentence("h by how much it is USED more in a DAY (0 to 99)");
        reckons("0", 0);
        reckons("1", 1);
        reckons("98", 98);
        reckons("99", 99);
        reckons("100", 99);
        reckons("99999", 99);
        reckons("0-1", 0);
        reckons("65536*32768", 0);
        reckons("65536*32768-1", 99);
        // below 0 it is not USED less
        HomesickStamps x = with("a", "0@5,5;0+0", "h9-5*t(1=1)");
        due("tried(1, 100)", x.tried(1, 100), 9);
        due("tried(2, 100)", x.tried(2, 100), 13);
        due("tried(3, 100)", x.tried(3, 100), 13);
        due("tried(9, 100)", x.tried(9, 100), 13);
    }

    private static void fallingOff() {
        sentence("x it falls off (any will do; without an x in THE LAW none does)");
        HomesickStamps x = with("3a", "0@5,5;0+0;0+1;0+2", "x(s=0);h1(1=1);x(s=2)");
        due("tried(1, 1)", x.tried(1, 1), 2);
        due("tried(1, 20)", x.tried(1, 20), 1);
        law(x, "x(s=3)");
        due("tried(9, 1)", x.tried(9, 1), 0);
        law(x, "x(1/0=1);x(s=1)");
        due("tried(9, 1)", x.tried(9, 1), 1);
        law(x, "p1(1=1);h1(1=1)");
        due("tried(100, 1)", x.tried(100, 1), 0);
        due("tried(100, 20)", x.tried(100, 20), 3);
    }

    private static void firstThatHolds() {
        sentence("of the first RULE of p, h whose C holds the E (beyond its bounds the bound; none: 0)");
        HomesickStamps x = with("3a", "0@5,5;0+0;0+1;0+2;0=99", "h5(s=1);p9(1=1);h7(s<2);h8(s<1)");
        due("tried(1, 100)", x.tried(1, 100), 7);
        due("tried(1, 101)", x.tried(1, 101), 5);
        due("tried(1, 102)", x.tried(1, 102), 0);
        // one of p is none of h
        law(x, "p9(1=1)");
        due("tried(1, 100)", x.tried(1, 100), 0);
        post(x, "0=26");
        due("tried(1, 0)", x.tried(1, 0), 1);
        law(x, "h9(1=1)");
        due("tried(1, 0)", x.tried(1, 0), 0);
        law(x, "p9(s=0);p50(s=0)");
        post(x, "0=9");
        due("tried(1, 0)", x.tried(1, 0), 0);
        post(x, "0=8");
        due("tried(1, 0)", x.tried(1, 0), 1);
    }

    private static void comparisons() {
        sentence("or E, one of < > =, and E");
        holds("4<5", true);
        holds("5<5", false);
        holds("6<5", false);
        holds("4>5", false);
        holds("5>5", false);
        holds("6>5", true);
        holds("4=5", false);
        holds("5=5", true);
        holds("6=5", false);
        holds("0-1<0", true);
        holds("0-1>0", false);
        reads("x(1)", -1003);
        reads("x(1!1)", -1003);
        reads("x(1==1)", -1004);
        reads("x(1<=1)", -1004);
        reads("x(1<2<3)", -1005);
    }

    private static void conditions() {
        sentence("C: PARTS with a | between two, one of which must hold; a PART: TESTS with an & between two, all of"
            + " which must");
        holds("1=1|1=2", true);
        holds("1=2|1=1", true);
        holds("1=2|1=2", false);
        holds("1=1&1=1", true);
        holds("1=1&1=2", false);
        holds("1=2&1=1", false);
        holds("1=1|1=2&1=2", true);
        holds("(1=1|1=2)&1=2", false);
        holds("1=2&1=2|1=1", true);
        holds("1=2&(1=2|1=1)", false);
        holds("!1=2", true);
        holds("!1=1", false);
        holds("!!1=1", true);
        holds("!1=2&1=2", false);
        holds("!(1=2&1=2)", true);
        holds("!1=1|1=1", true);
        holds("!(1=1|1=1)", false);
        holds("1=2|1=2|1=2|1=2|1=1", true);
        holds("1=1&1=1&1=1&1=1&1=2", false);
    }

    private static void fromTheLeftOn() {
        sentence("E: TERMS with + or - between two; a TERM: FACTORS with one of * / % between two; from the left on");
        reckons("9-4-3", 2);
        reckons("9-4+3", 8);
        reckons("9-[4+3]", 2);
        reckons("50/5/2", 5);
        reckons("50/5*2", 20);
        reckons("50/[5*2]", 5);
        reckons("50%7*3", 3);
        reckons("3*50%7", 3);
        reckons("1+2*3+4", 11);
        reckons("20-2*3%4-1", 17);
        reckons("[1+2]*[3+4]", 21);
    }

    private static void numbers() {
        sentence("a number of one to five digits");
        reckons("0", 0);
        reckons("7", 7);
        reckons("00007", 7);
        reckons("99999-99900", 99);
        reckons("99999-99999", 0);
        reckons("10000/200", 50);
        holds("99999>99998", true);
        reads("h100000(1=1)", -2006);
        reads("h000007(1=1)", -2006);
    }

    /** What h is by one letter for the STAMP of that number on its LETTER. */
    private static void fact(HomesickStamps x, String letter, int s, int want) {
        due("law h" + letter, law(x, "h" + letter + "(1=1)"), 1);
        due("h" + letter + " of STAMP " + s, x.tried(1, 100 + s), want);
        law(x, "p0(1=1)");
    }

    private static void facts() {
        sentence("s the STAMP, m its MINT, g 2 if it is WHOLE, 1 TORN, 0 FALSE, u USED, d steps from the LETTER to the"
            + " MINT (across and along added up), n how many STAMPS are on the LETTER, l the LETTER, t THE DAY modulo"
            + " 100, w a DRAW.");
        HomesickStamps x = new HomesickStamps();
        x.mint(0, 0, 0);
        x.mint(7, 23, 15);
        due("sheet", sheet(x, "aataf5(9h)"), 48);
        post(x, "0@0,0;7@0,0;0+0;7+1;7+47;0+2");
        fact(x, "s", 0, 0);
        fact(x, "s", 47, 47);
        fact(x, "m", 0, 0);
        fact(x, "m", 47, 7);
        fact(x, "g", 0, 2);
        fact(x, "g", 1, 1);
        fact(x, "g", 2, 0);
        fact(x, "d", 0, 0);
        fact(x, "d", 47, 38);
        fact(x, "l", 0, 0);
        fact(x, "l", 47, 7);
        fact(x, "n", 0, 2);
        fact(x, "u", 0, 0);
        for (int from = 0; from < 48; from += 12) {
            StringBuilder lines = new StringBuilder();
            for (int s = from; s < from + 12; s++) {
                lines.append(s == from ? "7+" : ";7+").append(s);
            }
            due("post", post(x, lines.toString()), 12);
        }
        fact(x, "n", 47, 48);
        fact(x, "n", 0, 48);
        post(x, "0+0");
        fact(x, "n", 0, 1);
        timeFacts();
    }

    private static void timeFacts() {
        HomesickStamps x = with("a", "0@5,5;0+0;0=99", "p0(1=1)");
        fact(x, "t", 0, 0);
        x.days(1);
        fact(x, "t", 0, 1);
        x.days(98);
        fact(x, "t", 0, 99);
        x.days(1);
        due("count(0)", x.count(0), 100);
        fact(x, "t", 0, 0);
        x.days(1);
        fact(x, "t", 0, 1);
        // u: what it was USED at the beginning of that DAY
        fact(x, "u", 0, 0);
        law(x, "h9(t<50)");
        x.days(1);
        due("stampIs(0, 2)", x.stampIs(0, 2), 9);
        fact(x, "u", 0, 18);
        // w: 0 to 9, the DRAW modulo 10
        x.seed(3915);
        fact(x, "w", 0, 9);
        x.seed(62000);
        fact(x, "w", 0, 18);
    }

    private static void thirtyTwoBits() {
        sentence("All is reckoned with 32 bits, as the machine does");
        holds("65536*32767+65535>0", true);
        holds("65536*32767+65535+1<0", true);
        holds("65536*32767+65536=65536*32768", true);
        holds("65536*32768<0", true);
        holds("65536*32768-1>0", true);
        holds("0-65536*32768=65536*32768", true);
        holds("65536*32768/[0-1]=65536*32768", true);
        holds("65536*32768%[0-1]=0", true);
        holds("65536*65536=0", true);
        holds("65536*65535=0-65536", true);
        // 9999800001 less 2 times 4294967296 is 1409865409
        reckons("99999*99999-70493*20000-5400", 9);
        holds("46340*46340>0", true);
        holds("46341*46341<0", true);
        // to the left of / and % below 0: towards 0, and with the sign of the left
        reckons("[0-7]/2+9", 6);
        reckons("7/[0-2]+9", 6);
        reckons("[0-7]%4+9", 6);
        reckons("7%[0-4]+9", 12);
        // no sum is asked whether it is too great before all of it is reckoned
        reckons("99999*99999*99999*0+4", 4);
    }

    private static void dividedByZero() {
        sentence("what is divided by 0 is REFUSED: then the whole C of the RULE does not hold, the E of it is 0.");
        holds("1/0=0", false);
        holds("1%0=0", false);
        holds("0/0=0", false);
        holds("0/1=0", true);
        holds("0%1=0", true);
        holds("!1/0=0", false);
        holds("!(1/0=0)", false);
        holds("!!1/0=0", false);
        holds("1/0=0|1=1", false);
        holds("(1/0=0|1=1)", false);
        holds("!(1/0=0&1=1)|1=1", false);
        holds("1=1&1/0=0|1=1", false);
        holds("1=1&1=1/0", false);
        holds("1/[d-5]=0|1=1", false);
        holds("1/[d-4]=1", true);
        holds("1/[65536*65536]=0|1=1", false);
        reckons("1/0", 0);
        reckons("1%0", 0);
        reckons("9+1/0", 0);
        reckons("1/0+9", 0);
        reckons("9-[1%0]*0", 0);
        reckons("9/[s-1]", 0);
        reckons("9/[s-2]+20", 11);
        // the RULE is chosen by its C alone: with a REFUSED E it is 0, those behind it are not asked
        HomesickStamps x = with("2a", "0@5,5;0+0;0+1;0=99", "h1/0(s=0);h6(1=1)");
        due("tried(1, 100)", x.tried(1, 100), 0);
        due("tried(1, 101)", x.tried(1, 101), 6);
        // a REFUSED C leaves it to those behind
        law(x, "h5(1/s=1);h6(1=1)");
        due("tried(1, 100)", x.tried(1, 100), 6);
        due("tried(1, 101)", x.tried(1, 101), 5);
        law(x, "x(1/s=0|1=1)");
        due("tried(1, 1)", x.tried(1, 1), 1);
        // the E of a RULE whose C does not hold is not asked
        law(x, "h1/0(1=2);h6(1=1)");
        due("tried(1, 100)", x.tried(1, 100), 6);
    }

    private static void asMuchAsMatters() {
        sentence("Of a C as much is asked, from the left, as matters.");
        holds("1=1|1/0=0", true);
        holds("1=2&1/0=0", false);
        holds("1=2&1/0=0|1=1", true);
        holds("1=2&(1/0=0|1=1)|1=1", true);
        holds("1=1|1=1&1/0=0", true);
        holds("1=1|(1/0=0)", true);
        holds("!(1=2&1/0=0)", true);
        holds("!(1=1|1/0=0)&1=1", false);
        holds("!(1=1|1/0=0)|1=1", true);
        holds("(1=1|1/0=0)&1=1", true);
        holds("(1=1|1/0=0)&1/0=0", false);
        holds("(1=2&1/0=0)|1=1", true);
        holds("1=2|1=1|1/0=0", true);
        holds("1=2|1/0=0|1=1", false);
        holds("1=1&1=2&1/0=0|1=1", true);
        holds("1=1&1/0=0&1=2|1=1", false);
    }

    private static void theEnd() {
        sentence(FAULT_ONE);
        String[] begun = {"p", "h", "x", "p1", "p1+", "p1*", "p[", "p[1", "p1(", "x(", "p1(1", "p1(1+", "p1(1=",
            "p1(1=1", "p1(1=1&", "p1(1=1|", "p1(!", "p1((", "p1((1=1", "p1((1=1)", "p1(1=1);", "p1(1=1);x", "ps", "pw"};
        for (String text : begun) {
            reads(text, -1000 - text.length());
        }
    }

    private static void whatCantStand() {
        sentence(FAULT_ONE);
        char[] others = {'a', 'z', 'S', '"', '#', ',', '~', 127, 128, 240, 255};
        String[] ahead = {"", "p", "x", "p1", "pw", "p1+", "p1/", "p[", "p[1", "p[1]", "p1(", "p1(1", "p1(1=", "p1(1=1",
            "p1(!", "p1((1=1", "p1((1=1)", "p1(1=1&", "p1(1=1|", "p1(1=1)", "p1(1=1);"};
        for (char other : others) {
            for (String text : ahead) {
                reads(text + other + "(1=1)", -1000 - text.length());
            }
        }
        reads("p1)", -1002);
        reads("p1]", -1002);
        reads("p[1)", -1003);
        reads("p[](1=1)", -1002);
        reads("p1()", -1003);
        reads("p1(1=1]", -1006);
        reads("p1([1=1])", -1005);
        reads("p1((1)=1)", -1005);
        reads("p1(1=1))", -1007);
        reads("p1(1=1)x(1=1)", -1007);
        reads("p-1(1=1)", -1001);
        reads("p1(-1=1)", -1003);
        reads("p1(1=1!)", -1006);
        reads("p1(1!=1)", -1004);
        reads("p!1(1=1)", -1001);
        reads("pss(1=1)", -1002);
        reads("p1s(1=1)", -1002);
        reads("ps1(1=1)", -1002);
        reads("p1(1=(1))", -1005);
    }

    private static void sixthDigit() {
        sentence("2 a sixth digit, at it");
        reads("p99999(1=1)", 1);
        reads("p999990(1=1)", -2006);
        reads("p000000(1=1)", -2006);
        reads("p1234567(1=1)", -2006);
        reads("p1+12345(1=12345)", 1);
        reads("p1+123456(1=1)", -2008);
        reads("p[123456](1=1)", -2007);
        reads("x(123456=1)", -2007);
        reads("x(1=123456)", -2009);
        reads("x(1=1&1=1);h123456", -2017);
        // wherever it stands, and whichever digit it is
        reads("x(1=1|1=123450)", -2013);
        reads("x(1=1&1=123459)", -2013);
        reads("x(!1=123459)", -2010);
        reads("x((1=123450))", -2010);
        reads("p1*123459(1=1)", -2008);
        reads("p1-[2%123450](1=1)", -2011);
        reads("p123456x", -2006);
    }

    private static void seventeenthRule() {
        sentence("4 a 17th RULE, at its letter (if that can stand there)");
        int seventeenth = SIXTEEN.length() + 1;
        reads(SIXTEEN + ";p", -4000 - seventeenth);
        reads(SIXTEEN + ";h", -4000 - seventeenth);
        reads(SIXTEEN + ";x", -4000 - seventeenth);
        reads(SIXTEEN + ";xx", -4000 - seventeenth);
        reads(SIXTEEN + ";q", -1000 - seventeenth);
        reads(SIXTEEN + ";;", -1000 - seventeenth);
        reads(SIXTEEN + ";", -1000 - seventeenth);
        reads(SIXTEEN + "x", -1000 - seventeenth + 1);
    }

    private static void seventhOpen() {
        sentence("5 a seventh of ( [ ! that are open in one another, at it (the ( of the RULE counts; a ! is open till"
            + " its TEST ends");
        reads("x((((((1=1))))))", 1);
        reads("x(((((((1=1)))))))", -5007);
        reads("x(((((((", -5007);
        reads("x([[[[[1]]]]]=[[[[[1]]]]])", 1);
        reads("x([[[[[[1]]]]]]=1)", -5007);
        reads("x(1=[[[[[[1]]]]]])", -5009);
        reads("x(!!!!!1=1)", 1);
        reads("x(!!!!!!1=1)", -5007);
        reads("x((!(![1]=1)))", 1);
        reads("x((!(![[1]]=1)))", -5007);
        reads("x((!(!([1]=1))))", -5007);
        reads("x((!(!!!1=1)))", -5007);
        // what is closed is open no more
        reads("x(((((1=1))))&(((((1=1))))))", 1);
        reads("x(((((1=1))))&((((((1=1)))))))", -5000 - 19);
        // a ! is open till its TEST ends, and no longer
        reads("x(!1=[[[[1]]]])", 1);
        reads("x(!1=[[[[[1]]]]])", -5009);
        reads("x(!1=1&[[[[[1]]]]]=1)", 1);
        reads("x(!1=1|(((((1=1))))))", 1);
        reads("x(!(1=1)&!!!!!1=1)", 1);
        reads("x(!(1=1&!!!!1=1))", -5011);
        reads("x(!(1=1&!!!1=1))", 1);
        // wherever it stands
        reads("x(1=1|((((((1=1))))))", -5011);
        reads("x(1=1&[[[[[[1]]]]]]=1)", -5011);
        reads("x(1=2*[[[[[[1]]]]]])", -5011);
        reads("x(1=2+[[[[[[1]]]]]])", -5011);
        reads("x(1=1);x(!!!!!!1=1)", -5014);
        // where it can't stand it is FAULT 1
        reads("x(((((([", -5007);
        reads("x(1=((((((1", -1004);
        reads("x(1!", -1003);
    }

    private static void ruleStandsAhead() {
        sentence("the E of a RULE stands ahead of it");
        reads("p[[[[[[1]]]]]](1=1)", 1);
        reads("p[[[[[[[1]]]]]]](1=1)", -5007);
        reads("p[[[[[[[", -5007);
        reads("p[[[[[[1]]]]]]((((((1=1))))))", 1);
        reads("p[1]+[[[[[[2]]]]]](1=1)", 1);
        reads("p[1]+[[[[[[[2]]]]]]](1=1)", -5011);
        HomesickStamps x = reads("h[[[[[[1+2]*3]-4]*5]%7]*2](1=1)", 1);
        // ((1+2)*3-4)*5 % 7 * 2
        due("tried(1, 100)", x.tried(1, 100), 8);
    }

    private static void inPlaceOfTheOneBefore() {
        sentence("in place of the one before: how many RULES");
        HomesickStamps x = begun();
        String most = "h0" + "+0".repeat(115) + "+7(1=01)";
        for (int i = 0; i < 9; i++) {
            due("law of 240 bytes", law(x, most), 1);
            due("tried(1, 100)", x.tried(1, 100), 7);
            due("law of 16 RULES", law(x, SIXTEEN), 16);
            due("count(6)", x.count(6), 16);
            due("tried(1, 100)", x.tried(1, 100), 5);
        }
        due("a FAULT", law(x, "h9(1=1);p1(1=1"), -1014);
        due("count(6)", x.count(6), 16);
        due("tried(1, 100)", x.tried(1, 100), 5);
        due("law of one RULE", law(x, "h1(s=1)"), 1);
        due("count(6)", x.count(6), 1);
        due("tried(1, 100)", x.tried(1, 100), 0);
        due("tried(1, 0)", x.tried(1, 0), 0);
    }

    private static void refusedAgainAndAgain() {
        sentence("what is divided by 0 is REFUSED: then the whole C of the RULE does not hold, the E of it is 0.");
        HomesickStamps x = begun();
        law(x, "h1+[2+[3*[4-[5+[6*1/0]]]]](s=0);h1(2+[2+[2*1/0]]=1|1=1);h5(3>1&7*[1+2]=21)");
        for (int i = 0; i < 3; i++) {
            due("days(50)", x.days(50), 0);
        }
        due("stampIs(0, 2)", x.stampIs(0, 2), 0);
        due("stampIs(2, 2)", x.stampIs(2, 2), 750);
        due("tried(1, 102)", x.tried(1, 102), 755);
    }
}
