import java.io.IOException;
import java.nio.file.Files;
import java.nio.file.Path;

/** What the tests share: TEXTS for the tape, objects to begin with, what is said of an answer that is not as due. */
abstract class Bench {
    /** A call on an object; a boolean counts 1 or 0. */
    interface Call {
        int on(HomesickStamps x);
    }

    /** A call with one of its numbers left open. */
    interface CallWith {
        int on(HomesickStamps x, int number);
    }

    private static final Path DOCUMENT = Path.of("../shared/DOC.md");
    private static final String SAID = documentSays();

    private static String about = "";
    private static int wrong = 0;

    private static String documentSays() {
        try {
            return Files.exists(DOCUMENT) ? oneLine(Files.readString(DOCUMENT)) : "";
        } catch (IOException e) {
            return "";
        }
    }

    private static String oneLine(String text) {
        return text.replaceAll("\\s+", " ");
    }

    static void promise(int number) {
        about = "promise " + number;
    }

    /** The sentence that the next calls hold the program to; it must stand in the document, word by word. */
    static void sentence(String words) {
        about = words;
        if (!SAID.isEmpty() && !SAID.contains(oneLine(words))) {
            wrong++;
            System.out.println("the document does not say: " + words);
        }
    }

    static void due(String call, long got, long want) {
        if (got != want) {
            wrong++;
            System.out.println(about + ": " + call + " answered " + got + ", due is " + want);
        }
    }

    static void due(String call, boolean got, boolean want) {
        due(call, bit(got), bit(want));
    }

    static void same(String call, String got, String want) {
        if (!got.equals(want)) {
            wrong++;
            System.out.println(about + ": " + call + " left\n    " + got + "\n  due is\n    " + want);
        }
    }

    static int bit(boolean answer) {
        return answer ? 1 : 0;
    }

    static void finish() {
        System.out.println(wrong == 0 ? "all answers are as due" : wrong + " answers are not as due");
        if (wrong != 0) {
            System.exit(1);
        }
    }

    /** Feeds bytes, behind them zeros up to the next twenty. */
    static void bytes(HomesickStamps x, int... values) {
        for (int i = 0; i < values.length; i += 20) {
            int[] w = new int[5];
            for (int k = 0; k < 20; k++) {
                w[k / 4] = w[k / 4] << 8 | (i + k < values.length ? values[i + k] : 0);
            }
            x.feed(w[0], w[1], w[2], w[3], w[4]);
        }
    }

    static int[] bytesOf(String text) {
        return text.chars().toArray();
    }

    static int text(HomesickStamps x, String text) {
        bytes(x, bytesOf(text));
        return text.length();
    }

    static int law(HomesickStamps x, String text) {
        return x.law(text(x, text));
    }

    static int sheet(HomesickStamps x, String text) {
        return x.sheet(text(x, text));
    }

    static int post(HomesickStamps x, String text) {
        return x.post(text(x, text));
    }

    /** MINTS: a in the middle (10, 5), b left of it (0, 5), c above (10, 0), d below (10, 10). */
    static HomesickStamps withMints() {
        HomesickStamps x = new HomesickStamps();
        x.mint(0, 10, 5);
        x.mint(1, 0, 5);
        x.mint(2, 10, 0);
        x.mint(3, 10, 10);
        return x;
    }

    static HomesickStamps with(String sheet, String post, String law) {
        HomesickStamps x = withMints();
        due("sheet " + sheet, sheet(x, sheet) > 0, true);
        due("post " + post, post(x, post) > 0, true);
        due("law " + law, law(x, law) > 0, true);
        return x;
    }

    static int place(int x, int y) {
        return 24 * y + x;
    }

    /** STAMP 1 (of MINT d, TORN) on LETTER 2 at 7, 12: d is 5, n 2, w 2 (the first DRAW). */
    private static HomesickStamps asking(String law) {
        HomesickStamps x = withMints();
        sheet(x, "adtb");
        post(x, "2@7,12;2+1;2+2;2=99");
        due("law " + law + " has a FAULT", law(x, law) < 0, false);
        return x;
    }

    static void reckons(String e, int want) {
        due("h" + e, asking("h" + e + "(1=1)").tried(1, 101), want);
    }

    static void holds(String c, boolean want) {
        due("h1(" + c + ")", asking("h1(" + c + ");h2(1=1)").tried(1, 101), want ? 1 : 2);
    }

    /**
     * Six STAMPS (one of a MINT that is not told), LETTERS 0, 3, 7 (3 IN A WALL), two WALLS, three RULES, another
     * state that is KEPT, and these bytes on the tape.
     */
    static HomesickStamps town(int... tape) {
        HomesickStamps x = with("2abtcdfe", "0@5,5;0+0;0+3;0=2;3@12,9;3+1;3+2;7@9,1;7+5;#8,4;#10,9",
            "pg+w(t<50);h3(1=1);x(u>20&s=1)");
        x.days(4);
        x.keep();
        post(x, "7@2,2;0=1;0+4");
        x.days(2);
        bytes(x, tape);
        return x;
    }

    /** All that can be seen of an object without its tape. */
    static String portrait(HomesickStamps x) {
        StringBuilder seen = new StringBuilder();
        for (int what = 0; what <= 8; what++) {
            seen.append(what == 7 ? "" : x.count(what) + " ");
        }
        for (int l = 0; l < 8; l++) {
            boolean told = (x.count(2) >> l & 1) == 1;
            for (int what = 0; told && what <= 6; what++) {
                seen.append(what == 0 ? "| " : "").append(x.letterIs(l, what)).append(' ');
            }
        }
        for (int s = 0; s < x.count(3); s++) {
            for (int what = 0; what <= 3; what++) {
                seen.append(what == 0 ? "/ " : "").append(x.stampIs(s, what)).append(' ');
            }
        }
        for (int what = 0; what <= 2; what++) {
            seen.append(what == 0 ? "~ " : "").append(x.tried(30, what)).append(' ');
        }
        return seen.toString();
    }

    /** In the town with this tape the call answers so; all else is as in a town without it, what is KEPT, too. */
    private static void asked(String call, int want, boolean tapeStays, Call asked, int... tape) {
        HomesickStamps x = town(tape);
        HomesickStamps y = town(tape);
        due(call, asked.on(x), want);
        due(call + ", then count(7)", x.count(7), tapeStays ? y.count(7) : 0);
        same(call, portrait(x), portrait(y));
        due(call + ", then the first byte", x.ship(1, 0), tapeStays ? y.ship(1, 0) : -1);
        due(call + ", then undo()", x.undo(), y.undo());
        same(call + ", then undo()", portrait(x), portrait(y));
    }

    static void refused(String call, int want, Call asked, int... tape) {
        asked(call, want, true, asked, tape);
    }

    /** As refused, but the tape is empty then. */
    static void changesNothing(String call, int want, Call asked, int... tape) {
        asked(call, want, false, asked, tape);
    }

    /** The last numbers that are taken, and those just beyond and far beyond, which change nothing. */
    static void bounds(String call, int low, int high, int refusal, CallWith asked, int... tape) {
        due(call + " with " + low + " is refused", asked.on(town(tape), low) == refusal, false);
        due(call + " with " + high + " is refused", asked.on(town(tape), high) == refusal, false);
        int[] beyond = {low - 1, high + 1, Integer.MIN_VALUE, Integer.MAX_VALUE};
        for (int number : beyond) {
            refused(call + " with " + number, refusal, x -> asked.on(x, number), tape);
        }
    }
}
