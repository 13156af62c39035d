/** For each promise of the document: ordinary inputs, the edges that it names, wrong inputs. */
public final class PromiseRuns extends Bench {
    public static void main(String[] args) {
        newObject();
        mint();
        feed();
        lawFaults();
        lawLimits();
        lawReckons();
        lawChooses();
        sheet();
        sheetFaults();
        postLines();
        postFaults();
        days();
        daysFall();
        daysUse();
        daysAtEdges();
        lastDay();
        tried();
        letterIs();
        stampIs();
        comes();
        atRest();
        meet();
        again();
        home();
        lying();
        stamped();
        hang();
        falseOnes();
        printed();
        ship();
        mule();
        marks();
        franked();
        exchange();
        seed();
        keepAndUndo();
        undoWithOtherSheet();
        check();
        count();
        finish();
    }

    private static void newObject() {
        promise(1);
        HomesickStamps x = new HomesickStamps();
        for (int what = 0; what < 8; what++) {
            due("count(" + what + ")", x.count(what), 0);
        }
        due("count(8)", x.count(8), 1);
        due("undo()", x.undo(), false);
        due("letterIs(0, 0)", x.letterIs(0, 0), -1000);
        due("stampIs(0, 0)", x.stampIs(0, 0), -1);
        due("NONE", HomesickStamps.NONE, -1);
    }

    private static void mint() {
        promise(2);
        HomesickStamps x = new HomesickStamps();
        due("mint(0, 0, 0)", x.mint(0, 0, 0), true);
        due("mint(7, 23, 15)", x.mint(7, 23, 15), true);
        int[][] others = {{-1, 0, 0}, {8, 0, 0}, {1, -1, 0}, {1, 24, 0}, {1, 0, -1}, {1, 0, 16},
            {Integer.MIN_VALUE, 0, 0}, {1, Integer.MAX_VALUE, 0}};
        for (int[] o : others) {
            due("mint(" + o[0] + ", " + o[1] + ", " + o[2] + ")", x.mint(o[0], o[1], o[2]), false);
        }
        due("count(1)", x.count(1), 0x81);
        sheet(x, "a");
        post(x, "0@5,5;0+0");
        due("letterIs(0, 5)", x.letterIs(0, 5), -2);
        due("mint(0, 9, 5)", x.mint(0, 9, 5), true);
        due("letterIs(0, 5)", x.letterIs(0, 5), 2);
        due("letterIs(0, 6)", x.letterIs(0, 6), 0);
        due("mint(0, 24, 5)", x.mint(0, 24, 5), false);
        due("letterIs(0, 5)", x.letterIs(0, 5), 2);
    }

    private static void feed() {
        promise(3);
        HomesickStamps x = new HomesickStamps();
        due("feed", x.feed(0x80020103, 0, 0, 0, 0xFF), 20);
        due("mule(4, 3, 1)", x.mule(4, 3, 1), 8);
        due("feed", x.feed(0x80020103, 0, 0, 0, 0xFF), 20);
        due("ship(1, 0)", x.ship(1, 0), 128);
        due("feed", x.feed(-1, 0, 0, 0, 0), 20);
        due("ship(1, 0)", x.ship(1, 0), 255);
        for (int i = 1; i <= 13; i++) {
            due("feed " + i, x.feed('a' << 24 | i, i, i, i, i), 20 * i);
        }
        due("feed 14", x.feed(9, 9, 9, 9, 9), -1);
        due("count(7)", x.count(7), 260);
        due("sheet(1)", x.sheet(1), 1);
        due("count(7)", x.count(7), 0);
        x.feed(0, 0, 0, 0, 7);
        x.feed(5 << 24, 0, 0, 0, 0);
        due("check(0)", x.check(0), -1);
        bytes(x, 0, 0, 0, 0, 0, 0, 0, 0, 0, 0, 0, 0, 0, 0, 0, 0, 0, 0, 0, 0, 'b');
        due("sheet(21)", x.sheet(21), -1000);
    }

    private static void lawFault(HomesickStamps x, String text, int want) {
        due("law " + text, law(x, text), want);
        due("count(7)", x.count(7), 0);
    }

    private static void lawFaults() {
        promise(4);
        HomesickStamps x = new HomesickStamps();
        lawFault(x, "p5(s=0);x(u>1);h3(d>1)", 3);
        String[] first = {"q", "P", "(", "1", " p1(1=1)", ";", "~"};
        for (String text : first) {
            lawFault(x, text, -1000);
        }
        lawFault(x, "p", -1001);
        lawFault(x, "x", -1001);
        lawFault(x, "p(1=1)", -1001);
        lawFault(x, "x1(1=1)", -1001);
        lawFault(x, "p-1(1=1)", -1001);
        lawFault(x, "pp(1=1)", -1001);
        lawFault(x, "p1", -1002);
        lawFault(x, "p1;", -1002);
        lawFault(x, "p1 (1=1)", -1002);
        lawFault(x, "p1()", -1003);
        lawFault(x, "p1(1", -1004);
        lawFault(x, "p1(1)", -1004);
        lawFault(x, "p1(1=", -1005);
        lawFault(x, "p1(1=1", -1006);
        lawFault(x, "p1(1=1=1)", -1006);
        lawFault(x, "p1(1==1)", -1005);
        lawFault(x, "p1(1=1]", -1006);
        lawFault(x, "p1(1=1);", -1008);
        lawFault(x, "p1(1=1)p", -1007);
        lawFault(x, "p1(1=1))", -1007);
        lawFault(x, "p1(1=1&)", -1007);
        lawFault(x, "p1(1=1|", -1007);
        lawFault(x, "p1(1=1&&1=1)", -1007);
        lawFault(x, "p1(!)", -1004);
        lawFault(x, "p1(())", -1004);
        lawFault(x, "p1((1=1)", -1008);
        lawFault(x, "p1((1)=1)", -1005);
        lawFault(x, "p1([1]=1)", 1);
        lawFault(x, "p1([1=1])", -1005);
        lawFault(x, "p[1(1=1)", -1003);
        lawFault(x, "p[](1=1)", -1002);
        lawFault(x, "p1+(1=1)", -1003);
        lawFault(x, "p1**1(1=1)", -1003);
        lawFault(x, "p1*123456(1=1)", -2008);
        lawFault(x, "p1+123456(1=1)", -2008);
        lawFault(x, "p1*[[[[[[[1", -5009);
        lawFault(x, "x(1=1|1=123456)", -2013);
        lawFault(x, "p1a(1=1)", -1002);
        lawFault(x, "pa(1=1)", -1001);
        lawFault(x, "px(1=1)", -1001);
        lawFault(x, "pss(1=1)", -1002);
        lawFault(x, "p1s(1=1)", -1002);
        lawFault(x, "x(1=1);x(1=1)", 2);
        lawFault(x, "ps+m-g*u/d%n+l-t+w(1<2&!2>1|(3=3))", 1);
        due("count(6)", x.count(6), 1);
    }

    private static void lawLimits() {
        promise(4);
        HomesickStamps x = new HomesickStamps();
        due("law(1)", x.law(1), -1);
        lawFault(x, "p12345(1=1)", 1);
        lawFault(x, "p123456(1=1)", -2006);
        lawFault(x, "p00001(1=000001)", -2014);
        lawFault(x, "x((((((1=1))))))", 1);
        lawFault(x, "x(((((((1=1)))))))", -5007);
        lawFault(x, "x(((((!(1=1))))))", -5007);
        lawFault(x, "x(!!!!!1=1)", 1);
        lawFault(x, "x(!!!!!!1=1)", -5007);
        lawFault(x, "x(!!!!!1=[1])", -5009);
        lawFault(x, "x(!!!!!1=1&!!!!!1=1|!!!!![1]=1)", -5025);
        lawFault(x, "x(!!!!!1=1&!!!!!1=1|!!!!!1=1)", 1);
        lawFault(x, "p[[[[[[1]]]]]](1=1)", 1);
        lawFault(x, "p[[[[[[[1]]]]]]](1=1)", -5007);
        lawFault(x, "p[[[[[[1]]]]]]([[[[[1]]]]]=1)", 1);
        lawFault(x, "p[[[[[[1]]]]]]([[[[[[1]]]]]]=1)", -5020);
        lawFault(x, "x([[[[[1]]]]]=[[[[[1]]]]])", 1);
        StringBuilder sixteen = new StringBuilder("x(1=1)");
        for (int i = 1; i < 16; i++) {
            sixteen.append(i % 2 == 0 ? ";x(1=1)" : ";p1(1=1)");
        }
        int length = sixteen.length();
        lawFault(x, sixteen.toString(), 16);
        lawFault(x, sixteen + ";", -1000 - length - 1);
        lawFault(x, sixteen + ";p", -4000 - length - 1);
        lawFault(x, sixteen + ";x(", -4000 - length - 1);
        lawFault(x, sixteen + ";y", -1000 - length - 1);
        due("count(6)", x.count(6), 16);
        StringBuilder longest = new StringBuilder("p0");
        for (int i = 0; i < 116; i++) {
            longest.append("+1");
        }
        longest.append("(1=1)");
        due("length", longest.length(), 239);
        String two40 = longest.toString().replace("(1=1)", "(1=10)");
        lawFault(x, two40, 1);
        text(x, two40 + "a");
        due("law(241)", x.law(241), -1);
        due("law(0)", x.law(0), -1);
        due("law(-1)", x.law(-1), -1);
        due("count(7)", x.count(7), 260);
        due("law(240)", x.law(240), 1);
        text(x, "p1(1=1)");
        due("law(21)", x.law(21), -1);
        due("count(7)", x.count(7), 20);
        due("law(7)", x.law(7), 1);
    }

    private static void lawReckons() {
        promise(4);
        reckons("s", 1);
        reckons("m", 3);
        reckons("g", 1);
        reckons("u", 0);
        reckons("d", 5);
        reckons("n", 2);
        reckons("l", 2);
        reckons("t", 0);
        reckons("w", 2);
        reckons("99", 99);
        reckons("100", 99);
        reckons("99999", 99);
        reckons("3-5", 0);
        reckons("2+3*4", 14);
        reckons("[2+3]*4", 20);
        reckons("20-5-3", 12);
        reckons("20-[5-3]", 18);
        reckons("40/3/2", 6);
        reckons("40/[3/2]", 40);
        reckons("17%10%4", 3);
        reckons("7*3%4", 1);
        reckons("7%4*3", 9);
        reckons("[0-7]/2+10", 7);
        reckons("[0-7]%4+10", 7);
        reckons("1/0", 0);
        reckons("5+1%0", 0);
        reckons("5+0*[1/0]", 0);
        // 65536 * 65536 is 0 with 32 bits, 46341 * 46341 is below 0
        reckons("65536*65536+9", 9);
        reckons("46341*46341", 0);
        reckons("0-46341*46341", 99);
        reckons("[0-65536*32768]/[0-1]", 0);
        reckons("[0-65536*32768]%[0-1]+4", 4);
        holds("1<2", true);
        holds("2<2", false);
        holds("3>2", true);
        holds("2>2", false);
        holds("d=5", true);
        holds("d=4", false);
        holds("!d=4", true);
        holds("!!d=4", false);
        holds("1=2|2=2", true);
        holds("1=1&2=1", false);
        holds("1=1|1=1&1=2", true);
        holds("(1=1|1=1)&1=2", false);
        holds("1=2&1=1|1=1", true);
        holds("!1=2&1=1", true);
        holds("!(1=2&1=1)", true);
        holds("!(1=1|1=2)", false);
        holds("1/0=1", false);
        holds("!1/0=1", false);
        holds("1=1|1/0=1", true);
        holds("1/0=1|1=1", false);
        holds("1=2&1/0=1", false);
        holds("1=2&1/0=1|1=1", true);
        holds("!(1=2&1/0=1)", true);
        holds("1=1&1%0=0|1=1", false);
        holds("0-1<0", true);
        holds("46341*46341<0", true);
    }

    private static void lawChooses() {
        promise(4);
        HomesickStamps x = with("3a", "0@5,5;0+0;0+1;0+2;0=99", "h5(s=1);h7(s<2);p1(1=1)");
        due("tried(1, 100)", x.tried(1, 100), 7);
        due("tried(1, 101)", x.tried(1, 101), 5);
        due("tried(1, 102)", x.tried(1, 102), 0);
        // the E that is REFUSED is 0; the RULES behind it are not asked
        due("law", law(x, "h1/0(s=0);h8(1=1)"), 2);
        due("tried(1, 100)", x.tried(1, 100), 0);
        due("tried(1, 101)", x.tried(1, 101), 8);
        due("law", law(x, "h3(1=1);h1(1=1"), -1014);
        due("tried(1, 100)", x.tried(1, 100), 0);
        due("tried(1, 101)", x.tried(1, 101), 8);
        // without a p none pulls
        due("law", law(x, "x(s=2)"), 1);
        post(x, "0=0");
        due("tried(9, 0)", x.tried(9, 0), 0);
        due("tried(9, 1)", x.tried(9, 1), 1);
        due("law", law(x, "x(s=2);p1(1=1);x(s=0)"), 3);
        due("tried(1, 1)", x.tried(1, 1), 2);
        due("tried(1, 0)", x.tried(1, 0), 1);
    }

    private static void sheet() {
        promise(5);
        HomesickStamps x = new HomesickStamps();
        due("sheet(1)", x.sheet(1), -1);
        due("sheet", sheet(x, "abtcf2h"), 5);
        int[] mints = {0, 1, 2, 7, 7};
        int[] grains = {2, 1, 0, 2, 2};
        for (int s = 0; s < 5; s++) {
            due("stampIs(" + s + ", 0)", x.stampIs(s, 0), mints[s]);
            due("stampIs(" + s + ", 1)", x.stampIs(s, 1), grains[s]);
            due("stampIs(" + s + ", 2)", x.stampIs(s, 2), 0);
            due("stampIs(" + s + ", 3)", x.stampIs(s, 3), -2);
        }
        due("sheet", sheet(x, "2(a2(bct)d)e"), 13);
        String all = "abcbcdabcbcde";
        for (int s = 0; s < 13; s++) {
            due("stampIs(" + s + ", 0)", x.stampIs(s, 0), all.charAt(s) - 'a');
            due("stampIs(" + s + ", 1)", x.stampIs(s, 1), all.charAt(s) == 'c' ? 1 : 2);
        }
        due("post", post(x, "0@1,1;0+0;0+12;0=7"), 4);
        due("count(4)", x.count(4), 2);
        due("sheet", sheet(x, "a("), -1002);
        due("count(3)", x.count(3), 13);
        due("count(4)", x.count(4), 2);
        due("sheet", sheet(x, "13a"), -1000);
        due("sheet", sheet(x, "b"), 1);
        due("count(3)", x.count(3), 1);
        due("count(4)", x.count(4), 0);
        due("letterIs(0, 1)", x.letterIs(0, 1), 7);
        due("letterIs(0, 3)", x.letterIs(0, 3), 0);
        due("stampIs(1, 0)", x.stampIs(1, 0), -1);
        text(x, "a");
        due("sheet(0)", x.sheet(0), -1);
        due("sheet(21)", x.sheet(21), -1);
        due("count(7)", x.count(7), 20);
        text(x, "aaaaaaaaaaaaaaaaaaaaaaaaaaaaaaaaaaaaaaaaaaaaaaa");
        due("sheet(61)", x.sheet(61), -1);
        due("count(7)", x.count(7), 80);
        due("sheet(1)", x.sheet(1), 1);
        due("sheet of 60", sheet(x, "a".repeat(12) + "atbfctdfetff".repeat(4)), 36);
        due("sheet of 48", sheet(x, "a".repeat(48)), 48);
        due("sheet of 49", sheet(x, "a".repeat(49)), -6048);
    }

    private static void sheetFault(String text, int want) {
        due("sheet " + text, sheet(new HomesickStamps(), text), want);
    }

    private static void sheetFaults() {
        promise(5);
        sheetFault("i", -1000);
        sheetFault("t", -1000);
        sheetFault("A", -1000);
        sheetFault(" a", -1000);
        sheetFault("0a", -1000);
        sheetFault("1a", -1000);
        sheetFault("9", -1001);
        sheetFault("22a", -1001);
        sheetFault("2ta", -1001);
        sheetFault("2)", -1001);
        sheetFault("attb", -1002);
        sheetFault("aft", -1002);
        sheetFault("a2", -1002);
        sheetFault("a)", -1001);
        sheetFault("()", -1001);
        sheetFault("(", -1001);
        sheetFault("(a", -1002);
        sheetFault("(a))", -1003);
        sheetFault("(a)t", -1003);
        sheetFault("((a)2)", -1005);
        sheetFault("((a)(a))(b)", 3);
        sheetFault("(((a)))", -5002);
        sheetFault("((2(a)))", -5003);
        sheetFault("2(2((a)))", -5004);
        sheetFault("6(8a)", 48);
        sheetFault("7(7a)", -6000);
        sheetFault("(7(7a))", -6001);
        sheetFault("9(9(9a))", -6002);
        sheetFault("9(9(9a", -1006);
        sheetFault("9(9(9a)", -6002);
        sheetFault("2(5(5a))", -6000);
        sheetFault("a6(8a)", -6001);
        // all that is ahead counts as soon as an inner one ends
        sheetFault("5(9a)2(4a)", -6007);
        sheetFault("5(9a)2(3a)", -6005);
        sheetFault("5(9a)(3a)", 48);
        sheetFault("5(9a)(3aa)", -6008);
        sheetFault("5(9a)4ax", -6005);
        sheetFault("5(9a)4a)", -6005);
        sheetFault("5(9a)4x", -1006);
        sheetFault("5(9a)((4(", -5007 - 1);
    }

    private static void postLines() {
        promise(6);
        HomesickStamps x = new HomesickStamps();
        due("post(1)", x.post(1), -1);
        sheet(x, "9a9b");
        due("post", post(x, "0@0,0;7@23,15;0+0;0+17;7+1;7=99;#5,6;#23,15"), 8);
        due("count(2)", x.count(2), 0x81);
        due("letterIs(0, 0)", x.letterIs(0, 0), 0);
        due("letterIs(7, 0)", x.letterIs(7, 0), 383);
        due("letterIs(7, 1)", x.letterIs(7, 1), 99);
        due("letterIs(0, 1)", x.letterIs(0, 1), 0);
        due("letterIs(0, 3)", x.letterIs(0, 3), 2);
        due("count(5)", x.count(5), 2);
        // laid again: STAMPS and PASTE stay
        due("post", post(x, "7@01,02;7+17;0-17;0-0;#5,6"), 5);
        due("letterIs(7, 0)", x.letterIs(7, 0), 49);
        due("letterIs(7, 1)", x.letterIs(7, 1), 99);
        due("letterIs(7, 3)", x.letterIs(7, 3), 2);
        due("letterIs(0, 3)", x.letterIs(0, 3), 0);
        due("stampIs(17, 3)", x.stampIs(17, 3), 7);
        due("count(5)", x.count(5), 1);
        // one after the other
        due("post", post(x, "7-17;7+17;7-17;#1,1;#1,1;#1,1;7=3;7=00"), 8);
        due("stampIs(17, 3)", x.stampIs(17, 3), -2);
        due("count(5)", x.count(5), 2);
        due("letterIs(7, 1)", x.letterIs(7, 1), 0);
        String twenty = "0=1;".repeat(19) + "0=2";
        due("post", post(x, twenty), 20);
        due("letterIs(0, 1)", x.letterIs(0, 1), 2);
        String all120 = "#1,15;".repeat(19) + "0@1,15";
        due("length", all120.length(), 120);
        due("post", post(x, all120), 20);
        text(x, all120 + ";");
        due("post(121)", x.post(121), -1);
        due("post(0)", x.post(0), -1);
        due("count(7)", x.count(7), 140);
        due("post(120)", x.post(120), 20);
        text(x, "0=4");
        due("post(21)", x.post(21), -1);
        due("count(7)", x.count(7), 20);
        due("letterIs(0, 1)", x.letterIs(0, 1), 2);
        due("post(3)", x.post(3), 1);
    }

    /** LETTER 0 is told, and there are nine STAMPS. */
    private static void postFault(String text, int want) {
        HomesickStamps x = new HomesickStamps();
        sheet(x, "9a");
        post(x, "0@3,4");
        due("post " + text, post(x, text), want);
        due("count(7)", x.count(7), 0);
        due("count(2)", x.count(2), 1);
        due("count(4)", x.count(4), 0);
        due("count(5)", x.count(5), 0);
        due("letterIs(0, 0)", x.letterIs(0, 0), place(3, 4));
        due("letterIs(0, 1)", x.letterIs(0, 1), 0);
    }

    private static void postFaults() {
        promise(6);
        postFault("8=1", -1000);
        postFault(";", -1000);
        postFault(" 0=1", -1000);
        postFault("0", -1001);
        postFault("0;", -1001);
        postFault("00", -1001);
        postFault("1", -1001);
        postFault("1,", -1001);
        postFault("0@", -1002);
        postFault("0@,", -1002);
        postFault("0@x", -1002);
        postFault("0@5", -1003);
        postFault("0@5;", -1003);
        postFault("0@55", -3002);
        postFault("0@24;", -3002);
        postFault("0@23,", -1005);
        postFault("0@23,16", -3005);
        postFault("0@23,16,", -3005);
        postFault("0@99,99", -3002);
        postFault("0@240,1", -2004);
        postFault("0@1,160", -2006);
        postFault("0@1,1,", -1005);
        postFault("0@1,1;", -1006);
        postFault("0@1,1;;", -1006);
        postFault("0+", -1002);
        postFault("0+9", -7002);
        postFault("0+99", -7002);
        postFault("0+099", -2004);
        postFault("0-9", -7002);
        postFault("0+9x", -7002);
        postFault("0+8x", -1003);
        postFault("0-", -1002);
        postFault("0=", -1002);
        postFault("0=100", -2004);
        postFault("0=-1", -1002);
        postFault("1+", -7000);
        postFault("1=", -7000);
        postFault("1-0", -7000);
        postFault("0=5;1=5", -7004);
        postFault("0=5;0@4,4;0+1;#1,1;1@1,1;1+9", -7000 - 27);
        postFault("#", -1001);
        postFault("#1", -1002);
        postFault("#1,", -1003);
        postFault("#24,1", -3001);
        postFault("#1,16", -3003);
        postFault("#100,1", -2003);
        postFault("#1,1#1,1", -1004);
        postFault("0=5;".repeat(20), -1080);
        postFault("0=5;".repeat(20) + "0", -4080);
        postFault("0=5;".repeat(20) + "1+", -4080);
        postFault("0=5;".repeat(20) + "#", -4080);
        postFault("0=5;".repeat(20) + ";", -1080);
    }

    private static void days() {
        promise(7);
        HomesickStamps x = with("2abct2d", "0@5,5;0+0", "pg(1=1)");
        due("days(0)", x.days(0), -1);
        due("days(101)", x.days(101), -1);
        due("days(-1)", x.days(-1), -1);
        due("count(0)", x.count(0), 0);
        due("days(3)", x.days(3), 3);
        due("letterIs(0, 0)", x.letterIs(0, 0), place(8, 5));
        due("days(100)", x.days(100), 2);
        due("letterIs(0, 0)", x.letterIs(0, 0), place(10, 5));
        due("count(0)", x.count(0), 103);
        // d pulls right and down alike: across goes first, then along once it is above d
        x = with("d", "0@8,8;0+0", "p1(1=1)");
        due("days(1)", x.days(1), 1);
        due("letterIs(0, 0)", x.letterIs(0, 0), place(9, 8));
        due("days(2)", x.days(2), 2);
        due("letterIs(0, 0)", x.letterIs(0, 0), place(10, 9));
        due("days(9)", x.days(9), 1);
        // c up 2, b left 1: the greater sum goes
        x = with("2cbt", "0@10,9;0+0;0+2", "pg(1=1)");
        due("days(1)", x.days(1), 1);
        due("letterIs(0, 0)", x.letterIs(0, 0), place(10, 8));
        // PASTE as strong as the pull holds it, a grain less does not
        x = with("2a", "0@5,5;0+0;0+1;0=4", "pg(1=1)");
        due("days(5)", x.days(5), 0);
        post(x, "0=3");
        due("days(2)", x.days(2), 2);
        // a WALL: it stays ahead of it until it is laid anew, even without the WALL
        post(x, "#9,5");
        due("days(9)", x.days(9), 1);
        due("letterIs(0, 2)", x.letterIs(0, 2), 1);
        due("letterIs(0, 0)", x.letterIs(0, 0), place(8, 5));
        post(x, "#9,5");
        due("days(9)", x.days(9), 0);
        due("letterIs(0, 2)", x.letterIs(0, 2), 1);
        post(x, "0@8,5");
        due("letterIs(0, 2)", x.letterIs(0, 2), 0);
        due("days(9)", x.days(9), 2);
        // laid on a WALL it is in none
        post(x, "#5,5;0@5,5");
        due("letterIs(0, 2)", x.letterIs(0, 2), 0);
        due("days(9)", x.days(9), 5);
        // all LETTERS, each with a DRAW, and none of those that are not told
        x = with("aab", "0@5,5;0+0;3@20,5;3+1;6@1,5;6+2", "p1(1=1)");
        due("days(3)", x.days(3), 7);
        long draw = 1;
        for (int i = 0; i < 9; i++) {
            draw = (25173 * draw + 13849) % 65536;
        }
        due("count(8)", x.count(8), draw);
        // MINTS that are not told pull nothing, and such STAMPS are not asked
        x = with("ea", "0@5,5;0+0", "p5(1=1);h1(1=1);x(s=0)");
        due("days(4)", x.days(4), 0);
        due("stampIs(0, 2)", x.stampIs(0, 2), 0);
        due("stampIs(0, 3)", x.stampIs(0, 3), 0);
        x.mint(4, 23, 5);
        due("days(1)", x.days(1), 0);
        due("stampIs(0, 3)", x.stampIs(0, 3), -2);
        // no LAW: no pulls
        x = withMints();
        sheet(x, "a");
        post(x, "0@5,5;0+0");
        due("days(4)", x.days(4), 0);
    }

    private static void daysFall() {
        promise(7);
        // n is less for those behind a STAMP that has fallen off
        HomesickStamps x = with("4a", "0@5,5;0+0;0+1;0+2;0+3", "x(n>2);p1(1=1)");
        due("days(1)", x.days(1), 1);
        due("letterIs(0, 3)", x.letterIs(0, 3), 2);
        due("letterIs(0, 4)", x.letterIs(0, 4), 2);
        // what falls off does not pull in that DAY
        x = with("2ab", "0@5,5;0+0;0+1;0+2", "x(m=0);p1(1=1)");
        due("days(1)", x.days(1), 1);
        due("letterIs(0, 0)", x.letterIs(0, 0), place(4, 5));
        // w is the LETTER's DRAW: 2 in the first DAY, 7 in the second
        x = with("2a", "0@5,5;0+0;0+1;0=9", "x(w=7&s=1)");
        due("days(1)", x.days(1), 0);
        due("count(8)", x.count(8), 39022);
        due("count(4)", x.count(4), 2);
        due("days(1)", x.days(1), 0);
        due("count(8)", x.count(8), 61087);
        due("count(4)", x.count(4), 1);
        // it falls off in A WALL, too
        x = with("2a", "0@5,5;#6,5;0+0;0+1", "x(t=3);p1(1=1);h1(1=1)");
        due("days(3)", x.days(3), 0);
        due("letterIs(0, 2)", x.letterIs(0, 2), 1);
        due("stampIs(0, 2)", x.stampIs(0, 2), 3);
        due("days(1)", x.days(1), 0);
        due("letterIs(0, 3)", x.letterIs(0, 3), 0);
        due("stampIs(0, 2)", x.stampIs(0, 2), 3);
    }

    private static void daysUse() {
        promise(7);
        // USED is 999 at most
        HomesickStamps x = with("2a", "0@5,5;0+0;0=99", "h99(1=1)");
        x.days(10);
        due("stampIs(0, 2)", x.stampIs(0, 2), 990);
        x.days(1);
        due("stampIs(0, 2)", x.stampIs(0, 2), 999);
        x.days(5);
        due("stampIs(0, 2)", x.stampIs(0, 2), 999);
        due("stampIs(1, 2)", x.stampIs(1, 2), 0);
        // USED stays with a STAMP that changes LETTERS
        post(x, "1@2,2;1+0");
        due("stampIs(0, 2)", x.stampIs(0, 2), 999);
        // u is USED as it was ahead of that DAY
        x = with("a", "0@5,5;0+0;0=99", "hu+1(1=1)");
        x.days(4);
        due("stampIs(0, 2)", x.stampIs(0, 2), 15);
        // h is asked with x and p, where it lies ahead of the step
        x = with("a", "0@8,5;0+0", "p1(1=1);h1(d=0);h5(d=1);h20(d=2)");
        x.days(1);
        due("letterIs(0, 0)", x.letterIs(0, 0), place(9, 5));
        due("stampIs(0, 2)", x.stampIs(0, 2), 20);
        due("tried(1, 100)", x.tried(1, 100), 25);
        x.days(1);
        due("stampIs(0, 2)", x.stampIs(0, 2), 25);
        x.days(1);
        due("stampIs(0, 2)", x.stampIs(0, 2), 26);
        // and with the n of x and p: those behind that fall off in that DAY count, those ahead do not
        x = with("3a", "0@5,5;0+0;0+1;0+2", "x(s=1);hn(1=1)");
        x.days(1);
        due("stampIs(0, 2)", x.stampIs(0, 2), 3);
        due("stampIs(1, 2)", x.stampIs(1, 2), 0);
        due("stampIs(2, 2)", x.stampIs(2, 2), 2);
        // what h was for another LETTER's STAMP, or in a DAY ahead, does not stay
        x = with("2a", "0@5,5;0+0;1@2,5;1+1", "hd(l=0&t=0);h1(t=1);h9(t=2)");
        x.days(1);
        due("stampIs(0, 2)", x.stampIs(0, 2), 5);
        due("stampIs(1, 2)", x.stampIs(1, 2), 0);
        x.days(1);
        due("stampIs(0, 2)", x.stampIs(0, 2), 6);
        due("stampIs(1, 2)", x.stampIs(1, 2), 1);
        x.days(1);
        due("stampIs(0, 2)", x.stampIs(0, 2), 15);
        // nor with a STAMP of a new SHEET that is not asked
        sheet(x, "e");
        post(x, "0+0");
        x.days(2);
        due("stampIs(0, 2)", x.stampIs(0, 2), 0);
        // the more USED the less it pulls
        x = with("a", "0@0,5;0+0;0=2", "p5-u(1=1);h1(1=1)");
        due("days(20)", x.days(20), 3);
        // t
        x = with("a", "0@0,5;0+0", "p1(t=99)");
        due("days(99)", x.days(99), 0);
        due("days(1)", x.days(1), 1);
        due("days(99)", x.days(99), 0);
        due("days(1)", x.days(1), 1);
    }

    /** The last MINT, STAMP and LETTER, and all four edges of the map. */
    private static void daysAtEdges() {
        promise(7);
        int[][] corners = {{0, 0}, {23, 0}, {0, 15}, {23, 15}};
        for (int[] corner : corners) {
            HomesickStamps x = new HomesickStamps();
            x.mint(7, corner[0], corner[1]);
            sheet(x, "6(8h)");
            due("post", post(x, "7@11,7;7+47"), 2);
            due("law", law(x, "p3(m=7&s=47&l=7);hd(1=1)"), 2);
            int steps = Math.abs(corner[0] - 11) + Math.abs(corner[1] - 7);
            due("tried(1, 147)", x.tried(1, 147), steps);
            due("tried(100, 27)", x.tried(100, 27), 1);
            due("tried(100, 17)", x.tried(100, 17), place(corner[0], corner[1]));
            due("comes", x.comes(7, place(corner[0], corner[1]), 100), steps);
            bytes(x, 47);
            due("stamped", x.stamped(1, place(11, 7), place(corner[0], corner[1]), 60, 1), 1);
            bytes(x, 11, 7, (corner[0] == 0 ? 2 : 1) + (corner[1] == 0 ? 8 : 4));
            due("printed", x.printed(1), 128);
            due("days(100)", x.days(100), steps);
            due("letterIs(7, 0)", x.letterIs(7, 0), place(corner[0], corner[1]));
            due("letterIs(7, 5)", x.letterIs(7, 5), 0);
            due("post", post(x, "7@11,7;#" + (corner[0] == 0 ? 10 : 12) + ",7"), 2);
            due("letterIs(7, 5)", x.letterIs(7, 5), corner[0] == 0 ? -2 : 2);
            due("letterIs(7, 6)", x.letterIs(7, 6), corner[1] == 0 ? -2 : 2);
            due("home(7, 0)", x.home(7, 0), 7);
            due("days(3)", x.days(3), 0);
            due("letterIs(7, 2)", x.letterIs(7, 2), 1);
            due("tried(1, 2)", x.tried(1, 2), 128);
            due("letterIs(7, 4)", x.letterIs(7, 4), 47);
            due("post", post(x, "7-47"), 1);
            due("count(4)", x.count(4), 0);
        }
    }

    private static void lastDay() {
        promise(7);
        HomesickStamps x = with("ab", "0@5,5;0+0", "pg(1=1)");
        for (int i = 0; i < 99; i++) {
            x.days(100);
        }
        due("count(0)", x.count(0), 9900);
        post(x, "0@5,5");
        x.days(97);
        post(x, "0@5,5");
        due("days(100)", x.days(100), 2);
        due("count(0)", x.count(0), 9999);
        due("letterIs(0, 0)", x.letterIs(0, 0), place(7, 5));
        int draw = x.count(8);
        due("days(1)", x.days(1), 0);
        due("count(0)", x.count(0), 9999);
        due("count(8)", x.count(8), draw);
        promise(8);
        due("tried(5, 0)", x.tried(5, 0), 0);
        due("tried(5, 10)", x.tried(5, 10), place(7, 5));
        due("comes(0, 128, 5)", x.comes(0, place(8, 5), 5), -2);
        due("atRest(0, 5)", x.atRest(0, 5), 0);
        due("again(0, 5)", x.again(0, 5), -2);
    }

    private static void tried() {
        promise(8);
        HomesickStamps x = with("2abct2d", "0@5,5;0+0;2@12,5;2+1;2+2;#8,5", "p9(m=0);p1(1=1);h2(1=1);x(s=2&t=1)");
        due("tried(1, 0)", x.tried(1, 0), 2);
        due("tried(4, 0)", x.tried(4, 0), 4);
        due("tried(1, 1)", x.tried(1, 1), 0);
        due("tried(2, 1)", x.tried(2, 1), 1);
        due("tried(100, 1)", x.tried(100, 1), 1);
        due("tried(2, 2)", x.tried(2, 2), 0);
        due("tried(3, 2)", x.tried(3, 2), 1);
        due("tried(3, 10)", x.tried(3, 10), place(7, 5));
        due("tried(1, 12)", x.tried(1, 12), place(11, 5));
        due("tried(1, 22)", x.tried(1, 22), 2);
        due("tried(2, 22)", x.tried(2, 22), 1);
        due("tried(2, 20)", x.tried(2, 20), 1);
        due("tried(3, 100)", x.tried(3, 100), 6);
        due("tried(3, 102)", x.tried(3, 102), 2);
        due("tried(3, 105)", x.tried(3, 105), 0);
        int[] others = {-1, 3, 9, 11, 13, 18, 19, 21, 28, 99, 106, 148, Integer.MIN_VALUE, Integer.MAX_VALUE};
        for (int what : others) {
            due("tried(3, " + what + ")", x.tried(3, what), -1);
        }
        due("tried(0, 0)", x.tried(0, 0), -1);
        due("tried(101, 0)", x.tried(101, 0), -1);
        // nothing is changed
        due("count(0)", x.count(0), 0);
        due("count(8)", x.count(8), 1);
        due("letterIs(0, 0)", x.letterIs(0, 0), place(5, 5));
        due("letterIs(0, 2)", x.letterIs(0, 2), 0);
        due("letterIs(2, 3)", x.letterIs(2, 3), 2);
        due("stampIs(0, 2)", x.stampIs(0, 2), 0);
        // the DRAWS that will come
        law(x, "p1(w>4);hw(1=1)");
        int used = x.tried(7, 100);
        int steps = x.tried(7, 0);
        due("days(7)", x.days(7), steps);
        due("stampIs(0, 2)", x.stampIs(0, 2), used);
    }

    private static void letterIs() {
        promise(9);
        HomesickStamps x = withMints();
        sheet(x, "2abtct2dfe");
        due("letterIs(1, 0)", x.letterIs(1, 0), -1000);
        due("post", post(x, "1@5,6;1=12;1+5;1+4;1+2;1+6"), 6);
        due("letterIs(1, 0)", x.letterIs(1, 0), place(5, 6));
        due("letterIs(1, 1)", x.letterIs(1, 1), 12);
        due("letterIs(1, 2)", x.letterIs(1, 2), 0);
        due("letterIs(1, 3)", x.letterIs(1, 3), 4);
        due("letterIs(1, 4)", x.letterIs(1, 4), 2);
        int[] others = {-1, 7, 100, Integer.MIN_VALUE, Integer.MAX_VALUE};
        for (int other : others) {
            due("letterIs(1, " + other + ")", x.letterIs(1, other), -1000);
            due("letterIs(" + other + ", 0)", x.letterIs(other, 0), -1000);
        }
        due("letterIs(0, 0)", x.letterIs(0, 0), -1000);
        due("letterIs(8, 0)", x.letterIs(8, 0), -1000);
    }

    private static void stampIs() {
        promise(10);
        HomesickStamps x = with("abtdf", "3@5,5;3+1", "h4(1=1)");
        x.days(2);
        int[][] all = {{0, 2, 0, -2}, {1, 1, 8, 3}, {3, 0, 0, -2}};
        for (int s = 0; s < 3; s++) {
            for (int what = 0; what < 4; what++) {
                due("stampIs(" + s + ", " + what + ")", x.stampIs(s, what), all[s][what]);
            }
        }
        int[] others = {-1, 4, 48, Integer.MIN_VALUE, Integer.MAX_VALUE};
        for (int other : others) {
            due("stampIs(0, " + other + ")", x.stampIs(0, other), -1);
            due("stampIs(" + other + ", 0)", x.stampIs(other, 0), -1);
        }
        for (int what = 0; what < 4; what++) {
            due("stampIs(3, " + what + ")", x.stampIs(3, what), -1);
        }
        promise(9);
        // PLAIN PULLS: THE LAW, USED and PASTE aside; b is TORN, d FALSE, e not told
        x = with("2abtct2dfe2d", "1@5,6;1+0;1+2;1+3;1+4;1+6;1=50", "p0(1=1);h9(1=1)");
        x.days(3);
        due("letterIs(1, 5)", x.letterIs(1, 5), 2 - 1 + 1);
        due("letterIs(1, 6)", x.letterIs(1, 6), -2 - 1 - 1);
        post(x, "1+8");
        due("letterIs(1, 5)", x.letterIs(1, 5), 4);
        due("letterIs(1, 6)", x.letterIs(1, 6), -2);
        due("letterIs(1, 4)", x.letterIs(1, 4), 0);
    }

    private static void comes() {
        promise(11);
        HomesickStamps x = with("ab", "0@5,5;0+0;1@7,7", "p1(1=1)");
        due("comes now", x.comes(0, place(5, 5), 1), 0);
        due("comes", x.comes(0, place(7, 5), 2), 2);
        due("comes", x.comes(0, place(7, 5), 1), -2);
        due("comes", x.comes(0, place(10, 5), 100), 5);
        due("comes", x.comes(0, place(11, 5), 100), -2);
        due("comes", x.comes(1, 383, 100), -2);
        due("comes(2)", x.comes(2, 0, 5), -1);
        due("comes(-1)", x.comes(-1, 0, 5), -1);
        due("comes(8)", x.comes(8, 0, 5), -1);
        due("comes place -1", x.comes(0, -1, 5), -1);
        due("comes place 384", x.comes(0, 384, 5), -1);
        due("comes n 0", x.comes(0, place(5, 5), 0), -1);
        due("comes n 101", x.comes(0, place(5, 5), 101), -1);
        due("count(0)", x.count(0), 0);
        due("letterIs(0, 0)", x.letterIs(0, 0), place(5, 5));
    }

    private static void atRest() {
        promise(12);
        HomesickStamps x = with("a", "0@5,5;0+0;1@3,3", "p1(1=1)");
        due("atRest(0, 100)", x.atRest(0, 100), 5);
        due("atRest(0, 5)", x.atRest(0, 5), 5);
        due("atRest(0, 3)", x.atRest(0, 3), 3);
        due("atRest(0, 1)", x.atRest(0, 1), 1);
        due("atRest(1, 100)", x.atRest(1, 100), 0);
        // it rests in between, but that is not the end
        law(x, "p1(t<2|t=6)");
        due("atRest(0, 10)", x.atRest(0, 10), 7);
        due("atRest(0, 6)", x.atRest(0, 6), 2);
        due("atRest(2, 5)", x.atRest(2, 5), -1);
        due("atRest(-1, 5)", x.atRest(-1, 5), -1);
        due("atRest(8, 5)", x.atRest(8, 5), -1);
        due("atRest(0, 0)", x.atRest(0, 0), -1);
        due("atRest(0, 101)", x.atRest(0, 101), -1);
        due("count(0)", x.count(0), 0);
    }

    private static void meet() {
        promise(13);
        HomesickStamps x = with("2ab", "0@6,5;0+0;1@14,5;1+1;2@6,5;3@0,0", "p1(1=1)");
        due("meet(0, 2, 5)", x.meet(0, 2, 5), 0);
        due("meet(0, 2, 1)", x.meet(0, 2, 1), 0);
        due("meet(0, 1, 4)", x.meet(0, 1, 4), 4);
        due("meet(1, 0, 100)", x.meet(1, 0, 100), 4);
        due("meet(0, 1, 3)", x.meet(0, 1, 3), -2);
        due("meet(0, 3, 100)", x.meet(0, 3, 100), -2);
        due("meet(0, 0, 5)", x.meet(0, 0, 5), -1);
        due("meet(0, 4, 5)", x.meet(0, 4, 5), -1);
        due("meet(4, 0, 5)", x.meet(4, 0, 5), -1);
        due("meet(-1, 0, 5)", x.meet(-1, 0, 5), -1);
        due("meet(0, 8, 5)", x.meet(0, 8, 5), -1);
        due("meet(0, 2, 0)", x.meet(0, 2, 0), -1);
        due("meet(0, 2, 101)", x.meet(0, 2, 101), -1);
        due("count(0)", x.count(0), 0);
    }

    private static void again() {
        promise(14);
        HomesickStamps x = with("ab", "0@5,5;0+0;0+1;1@1,1", "p2(m=0&t<3);p1(1=1&m=1)");
        // right three times, then left: behind the fourth DAY at 7, 5 once more
        due("again(0, 4)", x.again(0, 4), 4);
        due("again(0, 3)", x.again(0, 3), -2);
        due("again(0, 1)", x.again(0, 1), -2);
        due("again(1, 100)", x.again(1, 100), -2);
        // it stays two DAYS and goes on: that is no return
        law(x, "p1(m=0&t<2);p1(m=0&t>3)");
        due("again(0, 100)", x.again(0, 100), -2);
        // a rest away from where it was, then back
        law(x, "p1(m=0&t=0);p1(m=1&t=5)");
        due("again(0, 100)", x.again(0, 100), 6);
        due("again(2, 5)", x.again(2, 5), -1);
        due("again(-1, 5)", x.again(-1, 5), -1);
        due("again(8, 5)", x.again(8, 5), -1);
        due("again(0, 0)", x.again(0, 0), -1);
        due("again(0, 101)", x.again(0, 101), -1);
        due("count(0)", x.count(0), 0);
    }

    private static void home() {
        promise(15);
        HomesickStamps x = withMints();
        sheet(x, "3at2b3dfhh");
        post(x, "0@5,5;1@1,1;1+5;1+6");
        due("home(0, 0)", x.home(0, 0), -2);
        due("home(0, 1)", x.home(0, 1), 0);
        due("home(1, 0)", x.home(1, 0), -2);
        due("home(1, 1)", x.home(1, 1), 0);
        post(x, "0+0;0+1;0+3;0+5");
        due("home(0, 0)", x.home(0, 0), 0);
        due("home(0, 1)", x.home(0, 1), 2);
        post(x, "0+4");
        due("home(0, 0)", x.home(0, 0), 1);
        due("home(0, 1)", x.home(0, 1), 4);
        // a MINT need not be told
        post(x, "0-3;0-4;0+8;0+9");
        due("home(0, 0)", x.home(0, 0), 7);
        due("home(0, 1)", x.home(0, 1), 4);
        due("home(2, 0)", x.home(2, 0), -1);
        due("home(-1, 0)", x.home(-1, 0), -1);
        due("home(8, 0)", x.home(8, 0), -1);
        due("home(0, 2)", x.home(0, 2), -1);
        due("home(0, -1)", x.home(0, -1), -1);
    }

    private static void lying() {
        promise(16);
        HomesickStamps x = new HomesickStamps();
        due("lying(0)", x.lying(0), 0);
        post(x, "0@0,0;3@0,0;7@23,15;2@1,1");
        due("lying(0)", x.lying(0), 9);
        due("lying(383)", x.lying(383), 128);
        due("lying(25)", x.lying(25), 4);
        due("lying(24)", x.lying(24), 0);
        due("lying(-1)", x.lying(-1), -1);
        due("lying(384)", x.lying(384), -1);
    }

    private static int stamped(HomesickStamps x, int[] which, int from, int to, int days, int what) {
        bytes(x, which);
        return x.stamped(which.length, from, to, days, what);
    }

    private static void stamped() {
        promise(17);
        HomesickStamps x = withMints();
        sheet(x, "2abct2dafe");
        due("stamped(1) of none", x.stamped(1, 0, 0, 0, 0), -1);
        int[] three = {0, 1, 2};
        int from = place(5, 5);
        due("right", stamped(x, three, from, place(8, 5), 3, 0), 1);
        due("count(7)", x.count(7), 0);
        due("right", stamped(x, three, from, place(8, 5), 3, 1), 1);
        due("too far", stamped(x, three, from, place(8, 5), 2, 1), -2);
        due("stays at its MINT", stamped(x, three, from, place(10, 5), 60, 1), 1);
        due("none is needed", stamped(x, three, from, from, 60, 0), 0);
        due("none is needed", stamped(x, three, from, from, 60, 1), 0);
        due("no days", stamped(x, three, from, from, 0, 1), 0);
        due("no days", stamped(x, three, from, place(6, 5), 0, 1), -2);
        due("left", stamped(x, new int[] {2, 0, 1}, from, place(0, 5), 5, 1), 1);
        // d whole goes right first, then down
        due("d", stamped(x, new int[] {3, 4}, place(8, 8), place(10, 9), 3, 1), 2);
        // two d against one a: 4 down and 6 right; a at 10, 10 pulls up 2
        due("a and d", stamped(x, new int[] {0, 4, 5}, place(10, 5), place(10, 7), 2, 1), 2);
        due("a holds d", stamped(x, new int[] {0, 4}, place(10, 5), place(10, 6), 9, 1), 3);
        due("FALSE ones do nothing", stamped(x, new int[] {6}, from, place(6, 5), 1, 1), -2);
        // one STAMP told twice pulls twice
        due("twice", stamped(x, new int[] {3, 3, 2}, place(10, 5), place(10, 4), 1, 1), 1);
        post(x, "#7,5");
        due("a WALL", stamped(x, three, from, place(8, 5), 3, 0), -2);
        due("ahead of a WALL", stamped(x, three, from, place(6, 5), 1, 0), 1);
        due("IN A WALL", stamped(x, three, from, place(6, 5), 2, 0), -2);
        due("from a WALL", stamped(x, three, place(7, 5), place(9, 5), 2, 1), 1);
        post(x, "0@5,5;0=99;0+0");
        due("a LETTER's own aside", stamped(x, three, from, place(6, 5), 1, 1), 1);
        due("no STAMP", stamped(x, new int[] {0, 8}, from, from, 1, 0), -3);
        due("count(7)", x.count(7), 0);
        due("no MINT", stamped(x, new int[] {0, 7}, from, from, 1, 0), -3);
        due("no STAMP", stamped(x, new int[] {255}, from, from, 1, 0), -3);
        bytes(x, 0, 1, 2, 3, 4, 5, 6, 0, 1, 2);
        int[][] others = {{0, 5, 5, 1, 0}, {10, 5, 5, 1, 0}, {1, -1, 5, 1, 0}, {1, 384, 5, 1, 0}, {1, 5, -1, 1, 0},
            {1, 5, 384, 1, 0}, {1, 5, 5, -1, 0}, {1, 5, 5, 61, 0}, {1, 5, 5, 1, -1}, {1, 5, 5, 1, 2}};
        for (int[] o : others) {
            due("stamped(" + o[0] + ", " + o[1] + ", " + o[2] + ", " + o[3] + ", " + o[4] + ")",
                x.stamped(o[0], o[1], o[2], o[3], o[4]), -1);
        }
        due("count(7)", x.count(7), 20);
        due("nine", x.stamped(9, 383, 0, 60, 0), -2);
        due("count(7)", x.count(7), 0);
    }

    private static int hang(HomesickStamps x, int[] which, int place, int what) {
        bytes(x, which);
        return x.hang(which.length, place, what);
    }

    private static void hang() {
        promise(18);
        HomesickStamps x = withMints();
        sheet(x, "2abct2dafe");
        int[] five = {0, 1, 2, 3, 4};
        due("hang(1) of none", x.hang(1, 0, 0), -1);
        due("ways", hang(x, five, place(5, 5), 0), 2);
        due("which", hang(x, five, place(5, 5), 1), 5);
        due("none", hang(x, new int[] {0, 1}, place(5, 5), 0), 0);
        due("none", hang(x, new int[] {0, 1}, place(5, 5), 1), -2);
        due("a FALSE one", hang(x, new int[] {0, 6}, place(5, 5), 0), 1);
        due("a FALSE one", hang(x, new int[] {0, 6}, place(5, 5), 1), 2);
        due("a FALSE one", hang(x, new int[] {6}, place(5, 5), 1), 1);
        // at a: both a, and c (1 up) never holds d (2 down); c told twice does
        due("at a MINT", hang(x, new int[] {0, 3, 3, 4}, place(10, 5), 0), 3);
        due("fewest", hang(x, new int[] {4, 3, 3}, place(10, 5), 1), 7);
        due("only one way counts for nothing", hang(x, new int[] {4, 3, 3}, place(9, 5), 0), 0);
        due("no STAMP", hang(x, new int[] {8}, 0, 0), -3);
        due("no MINT", hang(x, new int[] {7}, 0, 1), -3);
        due("count(7)", x.count(7), 0);
        bytes(x, 0, 1, 2, 3, 4, 5, 6, 0, 1, 2);
        int[][] others = {{0, 5, 0}, {10, 5, 0}, {1, -1, 0}, {1, 384, 0}, {1, 5, -1}, {1, 5, 2}};
        for (int[] o : others) {
            due("hang(" + o[0] + ", " + o[1] + ", " + o[2] + ")", x.hang(o[0], o[1], o[2]), -1);
        }
        due("count(7)", x.count(7), 20);
        due("nine", x.hang(9, 383, 1), 64);
    }

    private static int falseOnes(HomesickStamps x, int[] which, int place, int across, int along, int what) {
        bytes(x, which);
        return x.falseOnes(which.length, place, across, along, what);
    }

    private static void falseOnes() {
        promise(19);
        HomesickStamps x = withMints();
        sheet(x, "2abct2dafe");
        int here = place(5, 5);
        int[] three = {0, 1, 2};
        due("falseOnes(1) of none", x.falseOnes(1, 0, 0, 0, 0), -1);
        due("right", falseOnes(x, three, here, 1, 0, 0), 0);
        due("none", falseOnes(x, three, here, 0, 0, 0), 1);
        due("none", falseOnes(x, three, here, 0, 0, 1), 1);
        due("left", falseOnes(x, three, here, -1, 0, 1), 3);
        due("down", falseOnes(x, three, here, 0, 1, 1), -2);
        // c up and d down at a: c 1, d 2 each
        due("up", falseOnes(x, new int[] {3, 4, 5}, place(10, 5), 0, -1, 1), 6);
        due("down", falseOnes(x, new int[] {3, 4, 5}, place(10, 5), 0, 1, 1), 0);
        due("still", falseOnes(x, new int[] {3, 4, 5}, place(10, 5), 0, 0, 1), 7);
        due("both", falseOnes(x, three, here, 1, 1, 0), -2);
        due("both", falseOnes(x, three, here, -1, 1, 1), -2);
        due("a FALSE one", falseOnes(x, new int[] {6, 0}, here, 0, 0, 1), 2);
        post(x, "#6,5;0@5,5;0=99;0+0");
        due("no WALLS, no PASTE", falseOnes(x, three, here, 1, 0, 0), 0);
        due("no STAMP", falseOnes(x, new int[] {8}, here, 0, 0, 0), -3);
        due("no STAMP", falseOnes(x, new int[] {8}, here, 1, 1, 0), -3);
        due("no MINT", falseOnes(x, new int[] {7}, here, 0, 0, 0), -3);
        due("count(7)", x.count(7), 0);
        bytes(x, 0, 1, 2, 3, 4, 5, 6, 0, 1, 2);
        int[][] others = {{0, 5, 0, 0, 0}, {10, 5, 0, 0, 0}, {1, -1, 0, 0, 0}, {1, 384, 0, 0, 0}, {1, 5, -2, 0, 0},
            {1, 5, 2, 0, 0}, {1, 5, 0, -2, 0}, {1, 5, 0, 2, 0}, {1, 5, 0, 0, -1}, {1, 5, 0, 0, 2}};
        for (int[] o : others) {
            due("falseOnes(" + o[0] + ", " + o[1] + ", " + o[2] + ", " + o[3] + ", " + o[4] + ")",
                x.falseOnes(o[0], o[1], o[2], o[3], o[4]), -1);
        }
        due("count(7)", x.count(7), 20);
        due("nine", x.falseOnes(9, here, 1, 0, 0), 0);
    }

    private static int printed(HomesickStamps x, int... pulls) {
        bytes(x, pulls);
        return x.printed(pulls.length / 3);
    }

    private static void printed() {
        promise(20);
        HomesickStamps x = withMints();
        due("printed(1) of none", x.printed(1), -1);
        due("right", printed(x, 5, 5, 1), 1);
        due("left", printed(x, 5, 5, 2), 2);
        due("right, down", printed(x, 5, 5, 5), 8);
        due("right, up", printed(x, 5, 5, 9), 4);
        due("left, down", printed(x, 11, 4, 6), 1 + 2 + 8);
        due("left, up", printed(x, 11, 11, 10), 15);
        due("down", printed(x, 10, 4, 4), 1 + 8);
        due("up", printed(x, 10, 6, 8), 1 + 4);
        due("there", printed(x, 10, 10, 0), 8);
        due("both", printed(x, 5, 5, 3), 0);
        due("no such way", printed(x, 5, 5, 17), 0);
        due("each", printed(x, 11, 11, 10, 10, 4, 4), 1 + 8);
        due("each", printed(x, 11, 11, 10, 10, 4, 4, 10, 5, 0), 1);
        due("each", printed(x, 11, 11, 10, 10, 4, 4, 10, 5, 0, 0, 0, 0), 0);
        due("ten", printed(x, 11, 11, 10, 11, 11, 10, 11, 11, 10, 11, 11, 10, 11, 11, 10, 11, 11, 10, 11, 11, 10,
            11, 11, 10, 11, 11, 10, 11, 11, 10), 15);
        due("count(7)", x.count(7), 0);
        due("none told", printed(new HomesickStamps(), 1, 1, 10), 0);
        bytes(x, new int[40]);
        due("printed(0)", x.printed(0), -1);
        due("printed(11)", x.printed(11), -1);
        due("printed(-1)", x.printed(-1), -1);
        due("count(7)", x.count(7), 40);
        x.check(0);
        bytes(x, new int[20]);
        due("printed(7)", x.printed(7), -1);
        due("printed(MAX)", x.printed(Integer.MAX_VALUE), -1);
        due("count(7)", x.count(7), 20);
        due("printed(6)", x.printed(6), 0);
    }

    private static int ship(int what, int... sacks) {
        HomesickStamps x = new HomesickStamps();
        bytes(x, sacks);
        int answer = x.ship(sacks.length, what);
        due("count(7)", x.count(7), 0);
        return answer;
    }

    private static void ship() {
        promise(21);
        due("ship 3 5 2", ship(0, 3, 5, 2), 0);
        due("ship 3 5 2", ship(1, 3, 5, 2), 5);
        due("ship 7", ship(0, 7), 7);
        due("ship 7", ship(1, 7), 1);
        due("ship 0", ship(0, 0), 0);
        due("ship 0 0", ship(1, 0, 0), 1);
        due("ship 4 4 4", ship(0, 4, 4, 4), 4);
        due("ship 4 4 4", ship(1, 4, 4, 4), 1);
        due("ship 1 1 1 1", ship(1, 1, 1, 1, 1), 3);
        due("ship 255 255 0", ship(1, 255, 255, 0), 1);
        due("ship 10", ship(0, 255, 255, 255, 255, 255, 255, 255, 255, 255, 255), 0);
        due("ship 10", ship(1, 255, 255, 255, 255, 255, 255, 255, 255, 255, 255), 31);
        due("ship 1 9 10", ship(1, 1, 9, 10), 3);
        HomesickStamps x = new HomesickStamps();
        due("ship(1, 0)", x.ship(1, 0), -1);
        bytes(x, 1);
        due("ship(0, 0)", x.ship(0, 0), -1);
        due("ship(11, 0)", x.ship(11, 0), -1);
        due("ship(1, -1)", x.ship(1, -1), -1);
        due("ship(1, 2)", x.ship(1, 2), -1);
        due("count(7)", x.count(7), 20);
    }

    private static int mule(int what, int much, int... grains) {
        HomesickStamps x = new HomesickStamps();
        bytes(x, grains);
        int answer = x.mule(grains.length, much, what);
        due("count(7)", x.count(7), 0);
        return answer;
    }

    private static void mule() {
        promise(22);
        due("mule 7", mule(0, 7, 3, 5, 2), 2);
        due("mule 7", mule(1, 7, 3, 5, 2), 6);
        due("mule 7", mule(2, 7, 3, 5, 2), 7);
        due("mule 8", mule(1, 8, 3, 5, 2), 3);
        due("mule 0", mule(0, 0, 3, 5, 2), 0);
        due("mule 0", mule(1, 0, 3, 5, 2), 0);
        due("mule 0", mule(2, 0, 3, 5, 2), 0);
        due("mule 1", mule(1, 1, 3, 5, 2), 4);
        due("mule of one", mule(1, 1, 3), 1);
        due("mule 10", mule(2, 10, 3, 5, 2), 10);
        for (int what = 0; what < 3; what++) {
            due("mule 11", mule(what, 11, 3, 5, 2), -2);
        }
        due("mule least bits", mule(1, 6, 3, 3, 3), 3);
        due("fewest, not lightest", mule(1, 4, 2, 2, 9), 4);
        int[] twelve = new int[12];
        java.util.Arrays.fill(twelve, 255);
        due("mule 3060", mule(1, 3060, twelve), 4095);
        due("mule 3060", mule(2, 3060, twelve), 3060);
        twelve[3] = 254;
        due("mule 3060", mule(1, 3060, twelve), -2);
        HomesickStamps x = new HomesickStamps();
        due("mule(1, 0, 0)", x.mule(1, 0, 0), -1);
        bytes(x, 1);
        due("mule(0, 0, 0)", x.mule(0, 0, 0), -1);
        due("mule(13, 0, 0)", x.mule(13, 0, 0), -1);
        due("mule(1, -1, 0)", x.mule(1, -1, 0), -1);
        due("mule(1, 3061, 0)", x.mule(1, 3061, 0), -1);
        due("mule(1, 0, -1)", x.mule(1, 0, -1), -1);
        due("mule(1, 0, 3)", x.mule(1, 0, 3), -1);
        due("count(7)", x.count(7), 20);
    }

    private static int marks(int k, int... values) {
        HomesickStamps x = new HomesickStamps();
        bytes(x, values);
        int answer = x.marks(values.length, k);
        due("count(7)", x.count(7), 0);
        return answer;
    }

    private static void marks() {
        promise(23);
        due("marks 1 4", marks(3, 1, 4), 6);
        due("marks 1 3", marks(1, 1, 3), 1);
        due("marks 1 3", marks(3, 1, 3), 7);
        due("marks 1", marks(6, 1), 6);
        due("marks 2", marks(6, 2), 0);
        due("marks 2 1", marks(2, 2, 1), 4);
        due("marks 1 4 7 8", marks(3, 1, 4, 7, 8), 24);
        due("marks 1 1", marks(2, 1, 1), 2);
        due("marks 100", marks(6, 1, 100), 6);
        due("marks 0", marks(6, 1, 0), -2);
        due("marks 101", marks(6, 101), -2);
        due("marks 255", marks(6, 1, 2, 3, 4, 255), -2);
        HomesickStamps x = new HomesickStamps();
        due("marks(1, 1)", x.marks(1, 1), -1);
        bytes(x, 1, 2, 3, 4, 5, 6);
        due("marks(0, 1)", x.marks(0, 1), -1);
        due("marks(6, 1)", x.marks(6, 1), -1);
        due("marks(1, 0)", x.marks(1, 0), -1);
        due("marks(1, 7)", x.marks(1, 7), -1);
        due("count(7)", x.count(7), 20);
    }

    private static int franked(int value, int... values) {
        HomesickStamps x = new HomesickStamps();
        bytes(x, values);
        int answer = x.franked(values.length, value);
        due("count(7)", x.count(7), 0);
        return answer;
    }

    private static void franked() {
        promise(24);
        due("franked 7", franked(7, 1, 4), 4);
        due("franked 8", franked(8, 1, 4), 2);
        due("franked 6", franked(6, 1, 3, 4), 2);
        due("franked 600", franked(600, 1), 600);
        due("franked 600", franked(600, 100, 3), 6);
        due("franked 1", franked(1, 2), -3);
        due("franked 3", franked(3, 2, 100), -3);
        due("franked 599", franked(599, 2, 100, 4, 6, 8), -3);
        due("franked 5", franked(5, 0), -2);
        due("franked 5", franked(5, 1, 101), -2);
        HomesickStamps x = new HomesickStamps();
        due("franked(1, 1)", x.franked(1, 1), -1);
        bytes(x, 1, 2, 3, 4, 5, 6);
        due("franked(0, 1)", x.franked(0, 1), -1);
        due("franked(6, 1)", x.franked(6, 1), -1);
        due("franked(1, 0)", x.franked(1, 0), -1);
        due("franked(1, 601)", x.franked(1, 601), -1);
        due("count(7)", x.count(7), 20);
    }

    private static void exchanged(String what, int n, int[] rows, int... want) {
        for (int who = 0; who < n; who++) {
            HomesickStamps x = new HomesickStamps();
            bytes(x, rows);
            due(what + " " + who, x.exchange(n, who), want[who]);
            due("count(7)", x.count(7), 0);
        }
    }

    private static void exchange() {
        promise(25);
        exchanged("two that change", 2, new int[] {1, 0, 0, 1}, 1, 0);
        exchanged("one keeps his own", 2, new int[] {1, 0, 1, 0}, 0, 1);
        exchanged("a ring of three", 3, new int[] {1, 0, 2, 2, 1, 0, 0, 2, 1}, 1, 2, 0);
        // 1 and 2 change first; 0 liked 1's best, then gets his own, as 3 has kept hers
        exchanged("two rings", 4, new int[] {1, 3, 0, 2, 2, 0, 1, 3, 1, 0, 2, 3, 3, 0, 1, 2}, 0, 2, 1, 3);
        // 0 points at 1, 1 at 0; then 2 and 3, who liked 0's best, change with each other
        exchanged("later ones", 4, new int[] {1, 0, 2, 3, 0, 1, 2, 3, 0, 3, 2, 1, 0, 1, 2, 3}, 1, 0, 3, 2);
        exchanged("six", 6, new int[] {5, 4, 3, 2, 1, 0, 0, 1, 2, 3, 4, 5, 1, 2, 0, 3, 4, 5, 2, 1, 0, 3, 4, 5,
            3, 2, 1, 0, 4, 5, 4, 3, 2, 1, 0, 5}, 5, 0, 1, 2, 3, 4);
        // all like 0's best and then 1's, so that later ones get what is left
        exchanged("what is left", 4, new int[] {0, 1, 2, 3, 0, 1, 2, 3, 0, 1, 3, 2, 0, 1, 2, 3}, 0, 1, 3, 2);
        exchanged("the third he likes", 3, new int[] {0, 2, 1, 0, 2, 1, 0, 2, 1}, 0, 1, 2);
        exchanged("one named twice", 2, new int[] {1, 1, 0, 1}, -2, -2);
        exchanged("one that is not there", 2, new int[] {1, 0, 2, 0}, -2, -2);
        HomesickStamps x = new HomesickStamps();
        due("exchange(2, 0)", x.exchange(2, 0), -1);
        bytes(x, 0, 1, 0, 1);
        due("exchange(1, 0)", x.exchange(1, 0), -1);
        due("exchange(7, 0)", x.exchange(7, 0), -1);
        due("exchange(2, -1)", x.exchange(2, -1), -1);
        due("exchange(2, 2)", x.exchange(2, 2), -1);
        due("exchange(5, 0)", x.exchange(5, 0), -1);
        due("exchange(65536, 0)", x.exchange(65536, 0), -1);
        due("count(7)", x.count(7), 20);
    }

    private static void seed() {
        promise(26);
        HomesickStamps x = with("a", "0@5,5;0+0", "p1(w=9)");
        due("seed(0)", x.seed(0), true);
        due("count(8)", x.count(8), 0);
        // X is 13849 then: the DRAW is 9
        due("tried(1, 0)", x.tried(1, 0), 1);
        due("seed(65535)", x.seed(65535), true);
        due("count(8)", x.count(8), 65535);
        x.days(1);
        due("count(8)", x.count(8), (25173L * 65535 + 13849) % 65536);
        due("seed(-1)", x.seed(-1), false);
        due("seed(65536)", x.seed(65536), false);
        due("count(8)", x.count(8), (25173L * 65535 + 13849) % 65536);
    }

    private static void keepAndUndo() {
        promise(27);
        HomesickStamps x = with("2ab", "0@5,5;0+0;0=1;#7,5", "p2(1=1);h3(1=1);x(t=6)");
        due("days(2)", x.days(2), 1);
        due("keep()", x.keep(), 2);
        post(x, "#7,5;#1,1;0@9,5;1@2,2;1+0;0=9;0+1");
        x.mint(0, 20, 5);
        law(x, "p1(1=1)");
        x.seed(77);
        due("days(9)", x.days(9), 9);
        promise(28);
        due("undo()", x.undo(), true);
        due("count(0)", x.count(0), 2);
        due("count(8)", x.count(8), (25173L * 39022 + 13849) % 65536);
        due("count(2)", x.count(2), 1);
        due("letterIs(0, 0)", x.letterIs(0, 0), place(6, 5));
        due("letterIs(0, 1)", x.letterIs(0, 1), 1);
        due("letterIs(0, 2)", x.letterIs(0, 2), 1);
        due("letterIs(1, 0)", x.letterIs(1, 0), -1000);
        due("stampIs(0, 3)", x.stampIs(0, 3), 0);
        due("stampIs(0, 2)", x.stampIs(0, 2), 6);
        due("stampIs(1, 3)", x.stampIs(1, 3), -2);
        // WALLS, MINTS, THE LAW stay as they are now
        due("count(5)", x.count(5), 1);
        due("count(6)", x.count(6), 1);
        post(x, "0@11,5");
        due("letterIs(0, 5)", x.letterIs(0, 5), 2);
        // as they were KEPT last, as often as one likes
        due("undo()", x.undo(), true);
        due("letterIs(0, 0)", x.letterIs(0, 0), place(6, 5));
        x.days(3);
        due("keep()", x.keep(), 5);
        x.days(3);
        due("undo()", x.undo(), true);
        due("count(0)", x.count(0), 5);
    }

    private static void undoWithOtherSheet() {
        promise(28);
        HomesickStamps x = with("3a", "0@5,5;0+0;0+2", "h3(1=1)");
        x.days(1);
        x.keep();
        sheet(x, "2b");
        due("undo()", x.undo(), true);
        due("count(3)", x.count(3), 2);
        due("stampIs(0, 0)", x.stampIs(0, 0), 1);
        due("stampIs(0, 3)", x.stampIs(0, 3), 0);
        due("stampIs(0, 2)", x.stampIs(0, 2), 3);
        due("stampIs(1, 3)", x.stampIs(1, 3), -2);
        due("count(4)", x.count(4), 1);
        due("letterIs(0, 3)", x.letterIs(0, 3), 1);
        sheet(x, "5c");
        post(x, "0+4;0+1");
        x.days(1);
        due("undo()", x.undo(), true);
        due("stampIs(4, 3)", x.stampIs(4, 3), -2);
        due("stampIs(4, 2)", x.stampIs(4, 2), 0);
        due("stampIs(1, 3)", x.stampIs(1, 3), -2);
        due("stampIs(2, 3)", x.stampIs(2, 3), 0);
        due("stampIs(2, 2)", x.stampIs(2, 2), 3);
        due("count(4)", x.count(4), 2);
        // what is KEPT with a shorter SHEET has no more than that
        sheet(x, "a");
        x.undo();
        x.keep();
        sheet(x, "5a");
        x.undo();
        due("count(4)", x.count(4), 1);
        due("stampIs(2, 2)", x.stampIs(2, 2), 0);
    }

    private static void check() {
        promise(29);
        HomesickStamps x = new HomesickStamps();
        due("check(0)", x.check(0), -1);
        due("check(1)", x.check(1), -2);
        post(x, "0@5,6;2@0,9;7@23,0");
        bytes(x, 5, 255, 0, 255, 255, 255, 255, 23);
        due("check(8)", x.check(8), -1);
        due("count(7)", x.count(7), 0);
        bytes(x, 5, 255, 1, 255, 255, 255, 255, 22);
        due("check(8)", x.check(8), 2);
        bytes(x, 5, 255, 1);
        due("check(2)", x.check(2), -1);
        bytes(x, 5, 0);
        due("check(2)", x.check(2), 1);
        bytes(x, 4, 0);
        due("check(2)", x.check(2), 0);
        bytes(x, 4);
        due("check(9)", x.check(9), -2);
        due("check(-1)", x.check(-1), -2);
        due("count(7)", x.count(7), 20);
        due("check(0)", x.check(0), -1);
        due("count(7)", x.count(7), 0);
    }

    private static void count() {
        promise(30);
        HomesickStamps x = with("2ab", "0@5,5;4@6,6;0+0;4+2;#1,1;#2,2;#3,3", "p1(1=1);x(1=2)");
        x.days(3);
        x.feed(1, 2, 3, 4, 5);
        int draw = 1;
        for (int i = 0; i < 6; i++) {
            draw = (25173 * draw + 13849) % 65536;
        }
        int[] all = {3, 15, 17, 3, 2, 3, 2, 20, draw};
        for (int what = 0; what < all.length; what++) {
            due("count(" + what + ")", x.count(what), all[what]);
        }
        int[] others = {-1, 9, Integer.MIN_VALUE, Integer.MAX_VALUE};
        for (int what : others) {
            due("count(" + what + ")", x.count(what), -1);
        }
    }
}
