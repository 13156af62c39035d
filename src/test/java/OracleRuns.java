import java.util.ArrayList;
import java.util.Arrays;
import java.util.List;
import java.util.Random;

/**
 * Random runs of calls, each answer held against a second, plainer reading of the document:
 * THE LAW as a tree, FAULTS as exceptions, riddles by trying all.
 */
public final class OracleRuns {
    private static final int RUNS = 3000;
    // behind these the document leaves all answers free
    private static final int CALLS = 512;
    // a call ahead of thirteen feeds, and one behind them
    private static final int DEAREST_STEP = 15;
    private static int wrong = 0;

    public static void main(String[] args) {
        int runs = args.length > 0 ? Integer.parseInt(args[0]) : RUNS;
        int first = args.length > 1 ? Integer.parseInt(args[1]) : 1;
        for (int run = first; run < first + runs && wrong < 20; run++) {
            new Run(run).go();
        }
        System.out.println(wrong == 0 ? "all answers are as due" : wrong + " answers are not as due");
        if (wrong != 0) {
            System.exit(1);
        }
    }

    /** One object beside its oracle. */
    private static final class Run {
        private final Random random;
        private final int number;
        private final HomesickStamps real = new HomesickStamps();
        private final Oracle oracle = new Oracle();
        private final List<String> told = new ArrayList<>();
        private boolean lost = false;

        Run(int number) {
            this.number = number;
            random = new Random(number);
        }

        void due(String call, long got, long want) {
            told.add(call + " -> " + got);
            if (got != want && !lost) {
                lost = true;
                wrong++;
                System.out.println("run " + number + ": " + call + " answered " + got + ", due is " + want);
                for (int i = Math.max(0, told.size() - 12); i < told.size(); i++) {
                    System.out.println("    " + told.get(i));
                }
            }
        }

        int any(int low, int high) {
            return low + random.nextInt(high - low + 1);
        }

        /** Mostly within, now and then just beyond or far out. */
        int about(int low, int high) {
            int luck = random.nextInt(40);
            if (luck == 0) {
                return low - 1;
            }
            if (luck == 1) {
                return high + 1;
            }
            if (luck == 2) {
                return random.nextInt();
            }
            return any(low, high);
        }

        void go() {
            for (int step = 0; !lost && told.size() + DEAREST_STEP <= CALLS; step++) {
                if (step < 12) {
                    prepare(step);
                } else if (step % 4 == 3) {
                    look(10);
                } else {
                    call(random.nextInt(40));
                }
            }
            look(CALLS - told.size());
        }

        void prepare(int i) {
            if (i < 6) {
                mint(i);
            } else if (i == 6) {
                text(sheetText());
            } else if (i == 7) {
                text(postText());
            } else if (i == 8) {
                text(lawText());
            } else {
                text(postText());
            }
        }

        void mint(int m) {
            int x = about(0, 23);
            int y = about(0, 15);
            due("mint(" + m + ", " + x + ", " + y + ")", real.mint(m, x, y) ? 1 : 0, oracle.mint(m, x, y) ? 1 : 0);
        }

        void feed(byte[] bytes) {
            for (int i = 0; i < bytes.length; i += 20) {
                int[] w = new int[5];
                for (int k = 0; k < 20; k++) {
                    int value = i + k < bytes.length ? bytes[i + k] : random.nextInt(256);
                    w[k / 4] = w[k / 4] << 8 | value & 255;
                }
                due("feed " + Arrays.toString(w), real.feed(w[0], w[1], w[2], w[3], w[4]), oracle.feed(w));
            }
        }

        /** Feeds what is needed, seldom too little; old bytes may still be there. */
        void feedText(String text) {
            byte[] bytes = new byte[text.length()];
            for (int i = 0; i < bytes.length; i++) {
                bytes[i] = (byte) text.charAt(i);
            }
            feed(bytes);
        }

        /** A text begins with a sign of what it is: S, P or L. */
        void text(String marked) {
            // the tape should be empty, or the text does not stand at its beginning
            if (random.nextInt(30) != 0) {
                due("check(0)", real.check(0), oracle.check(0));
            }
            String text = spoil(marked.substring(1));
            feedText(text);
            int n = random.nextInt(40) == 0 ? about(0, 250) : text.length();
            char kind = marked.charAt(0);
            String what = " of " + text;
            if (kind == 'S') {
                due("sheet(" + n + ")" + what, real.sheet(n), oracle.sheet(n));
            } else if (kind == 'P') {
                due("post(" + n + ")" + what, real.post(n), oracle.post(n));
            } else {
                due("law(" + n + ")" + what, real.law(n), oracle.law(n));
            }
        }

        String spoil(String text) {
            String signs = "0123456789abcdefghpxtfsmgudnlw()[]!&|<>=+-*/%;,@#~";
            StringBuilder built = new StringBuilder(text);
            int times = Math.max(0, random.nextInt(12) - 9);
            for (int i = 0; i < times && built.length() > 1; i++) {
                int at = random.nextInt(built.length());
                int how = random.nextInt(3);
                if (how == 0) {
                    built.deleteCharAt(at);
                } else if (how == 1) {
                    built.insert(at, signs.charAt(random.nextInt(signs.length())));
                } else {
                    built.setCharAt(at, signs.charAt(random.nextInt(signs.length())));
                }
            }
            return built.toString();
        }

        String sheetText() {
            StringBuilder built = new StringBuilder();
            items(built, 0);
            String text = built.toString();
            return "S" + (text.length() > 60 ? text.substring(0, 60) : text);
        }

        void items(StringBuilder built, int depth) {
            int many = any(1, 4);
            for (int i = 0; i < many; i++) {
                if (random.nextInt(3) == 0) {
                    built.append(any(2, random.nextInt(4) == 0 ? 9 : 4));
                }
                if (random.nextInt(depth == 0 ? 3 : 5 + 10 * depth) == 0) {
                    built.append('(');
                    items(built, depth + 1);
                    built.append(')');
                } else {
                    built.append((char) any('a', random.nextInt(12) == 0 ? 'h' : 'f'));
                    if (random.nextInt(3) == 0) {
                        built.append(random.nextBoolean() ? 't' : 'f');
                    }
                }
            }
        }

        String postText() {
            StringBuilder built = new StringBuilder("P");
            int lines = random.nextInt(15) == 0 ? any(18, 22) : any(1, 14);
            boolean[] laid = oracle.now.told.clone();
            for (int i = 0; i < lines; i++) {
                built.append(i > 0 ? ";" : "");
                int kind = random.nextInt(9);
                int l = random.nextInt(100) == 0 ? any(0, 7) : laidOne(laid);
                if (kind == 0 && random.nextInt(3) == 0) {
                    built.append('#').append(aPlace());
                } else if (l < 0 || kind == 1) {
                    l = any(0, 7);
                    laid[l] = true;
                    built.append(l).append('@').append(aPlace());
                } else if (kind == 2) {
                    built.append(l).append('=').append(random.nextInt(8) == 0 ? any(0, 99) : any(0, 3));
                } else if (kind == 3) {
                    built.append(l).append('-').append(aStamp());
                } else {
                    built.append(l).append('+').append(aStamp());
                }
            }
            String text = built.toString();
            return text.length() > 121 ? text.substring(0, 121) : text;
        }

        /** A LETTER that is told by then, -1 if none is. */
        int laidOne(boolean[] laid) {
            int first = random.nextInt(8);
            for (int i = 0; i < 8; i++) {
                if (laid[(first + i) % 8]) {
                    return (first + i) % 8;
                }
            }
            return -1;
        }

        String aPlace() {
            boolean near = random.nextInt(3) != 0;
            return (near ? any(8, 15) : any(0, 23)) + "," + (near ? any(4, 9) : any(0, 15));
        }

        int aStamp() {
            return random.nextInt(60) == 0 ? any(0, 60) : random.nextInt(Math.max(1, oracle.mints.length));
        }

        String lawText() {
            StringBuilder built = new StringBuilder("L");
            int rules = random.nextInt(25) == 0 ? any(15, 18) : any(1, 5);
            for (int i = 0; i < rules; i++) {
                built.append(i > 0 ? ";" : "");
                char kind = "ppphhhx".charAt(random.nextInt(7));
                if (rules > 10) {
                    built.append(kind == 'x' ? "x(1=2)" : kind + "1(g>0)");
                    continue;
                }
                built.append(kind);
                if (kind != 'x') {
                    sum(built, 0);
                }
                built.append('(');
                any(built, 1);
                // else most STAMPS would fall off at once
                built.append(kind == 'x' && random.nextInt(4) != 0 ? "&w=7&u>3" : "");
                built.append(')');
            }
            // a RULE for what is left, or few LETTERS would go
            built.append(random.nextInt(4) == 0 ? "" : ";pg*3(1=1);h1(1>0)");
            String text = built.toString();
            return text.length() > 241 ? text.substring(0, 241) : text;
        }

        void any(StringBuilder built, int depth) {
            parts(built, depth, random.nextInt(3) == 0 ? 2 : 1);
        }

        void parts(StringBuilder built, int depth, int many) {
            for (int i = 0; i < many; i++) {
                if (i > 0) {
                    built.append(random.nextBoolean() ? '|' : '&');
                }
                test(built, depth);
            }
        }

        void test(StringBuilder built, int depth) {
            int luck = random.nextInt(10);
            if (luck == 0 && depth < 7) {
                built.append('!');
                test(built, depth + 1);
            } else if (luck == 1 && depth < 7) {
                built.append('(');
                parts(built, depth + 1, any(1, 3));
                built.append(')');
            } else {
                sum(built, depth);
                built.append("<>=".charAt(random.nextInt(3)));
                sum(built, depth);
            }
        }

        void sum(StringBuilder built, int depth) {
            int many = random.nextInt(3) == 0 ? 2 : 1;
            for (int i = 0; i < many; i++) {
                if (i > 0) {
                    built.append("+-*/%".charAt(random.nextInt(5)));
                }
                int luck = random.nextInt(12);
                if (luck == 0 && depth < 7) {
                    built.append('[');
                    sum(built, depth + 1);
                    built.append(']');
                } else if (luck < 5) {
                    built.append(random.nextInt(12) == 0 ? any(0, 99999) : any(0, 6));
                } else {
                    built.append("smgudnltw".charAt(random.nextInt(9)));
                }
            }
        }

        void call(int which) {
            int l = random.nextInt(12) == 0 ? about(0, 7) : aToldLetter();
            int n = random.nextInt(3) == 0 ? about(1, 100) : any(1, 20);
            int place = about(0, 383);
            switch (which) {
                case 0 -> mint(about(0, 7));
                case 1 -> text(sheetText());
                case 2, 3, 4, 5, 6 -> text(postText());
                case 7, 8 -> text(lawText());
                case 9, 10, 11 -> due("days(" + n + ")", real.days(n), oracle.days(n));
                case 12, 13, 14 -> tried(n);
                case 15 -> comes(l, n);
                case 16 -> due("atRest(" + l + ", " + n + ")", real.atRest(l, n), oracle.atRest(l, n));
                case 17 -> meet(l, n);
                case 18, 19 -> due("again(" + l + ", " + n + ")", real.again(l, n), oracle.again(l, n));
                case 20 -> due("lying(" + place + ")", real.lying(place), oracle.lying(place));
                case 21, 22, 23 -> crew(0);
                case 24 -> crew(1);
                case 25 -> crew(2);
                case 26 -> printed();
                case 27 -> ship();
                case 28 -> mule();
                case 29 -> marks();
                case 30 -> exchange();
                case 31 -> seed();
                case 32 -> due("keep()", real.keep(), oracle.keep());
                case 33 -> due("undo()", real.undo() ? 1 : 0, oracle.undo() ? 1 : 0);
                case 34 -> check();
                case 35, 36 -> text(postText());
                case 37 -> feedSome(any(1, 20));
                case 38 -> feedSome(any(1, 260));
                default -> text(lawText());
            }
        }

        int aToldLetter() {
            for (int i = 0; i < 20; i++) {
                int l = random.nextInt(8);
                if (oracle.now.told[l]) {
                    return l;
                }
            }
            return 0;
        }

        void tried(int n) {
            int what = switch (random.nextInt(6)) {
                case 0 -> about(0, 2);
                case 1 -> about(10, 17);
                case 2 -> about(20, 27);
                case 3 -> 10 + aToldLetter();
                default -> about(100, 100 + Math.max(1, oracle.mints.length) - 1);
            };
            due("tried(" + n + ", " + what + ")", real.tried(n, what), oracle.tried(n, what));
        }

        void comes(int l, int n) {
            int place = about(0, 383);
            if (l >= 0 && l < 8 && random.nextInt(4) != 0) {
                place = oracle.tried(any(1, 20), 10 + l);
            }
            due("comes(" + l + ", " + place + ", " + n + ")", real.comes(l, place, n), oracle.comes(l, place, n));
        }

        void meet(int l, int n) {
            int k = aToldLetter();
            due("meet(" + l + ", " + k + ", " + n + ")", real.meet(l, k, n), oracle.meet(l, k, n));
        }

        void emptyAndFeed(byte[] bytes) {
            if (random.nextInt(30) != 0) {
                due("check(0)", real.check(0), oracle.check(0));
            }
            feed(bytes);
        }

        void crew(int what) {
            int n = about(1, 9);
            byte[] bytes = new byte[9];
            int most = Math.max(1, oracle.mints.length) - (random.nextInt(9) == 0 ? 0 : 1);
            for (int i = 0; i < 9; i++) {
                bytes[i] = (byte) random.nextInt(most + 1);
                // one more try for a STAMP whose MINT is told
                int m = bytes[i] < oracle.mints.length ? oracle.mints[bytes[i]] : 0;
                bytes[i] = oracle.mintTold[m] ? bytes[i] : (byte) random.nextInt(most + 1);
            }
            emptyAndFeed(bytes);
            int place = random.nextInt(4) == 0 ? about(0, 383) : 24 * any(3, 10) + any(7, 16);
            int ask = about(0, 1);
            String with = n + " of " + Arrays.toString(bytes) + ", " + place;
            if (what == 0) {
                int dx = any(-2, 2);
                int dy = any(-2, 2);
                int to = random.nextInt(9) == 0 ? about(0, 383) : place + dx + 24 * dy;
                int days = random.nextInt(3) == 0 ? about(0, 60) : Math.abs(dx) + Math.abs(dy) + 2 * any(0, 2);
                due("stamped(" + with + ", " + to + ", " + days + ", " + ask + ")",
                    real.stamped(n, place, to, days, ask), oracle.stamped(n, place, to, days, ask));
            } else if (what == 1) {
                due("hang(" + with + ", " + ask + ")", real.hang(n, place, ask), oracle.hang(n, place, ask));
            } else {
                int across = about(-1, 1);
                int along = random.nextInt(4) == 0 ? about(-1, 1) : 0;
                due("falseOnes(" + with + ", " + across + ", " + along + ", " + ask + ")",
                    real.falseOnes(n, place, across, along, ask), oracle.falseOnes(n, place, across, along, ask));
            }
        }

        void printed() {
            int n = random.nextInt(2) == 0 ? any(1, 2) : about(1, 10);
            byte[] bytes = new byte[30];
            int m = random.nextInt(8);
            for (int i = 0; i < 10; i++) {
                int x = random.nextInt(24);
                int y = random.nextInt(16);
                bytes[3 * i] = (byte) x;
                bytes[3 * i + 1] = (byte) y;
                bytes[3 * i + 2] = (byte) (random.nextInt(20) == 0 ? random.nextInt(16) : oracle.way(m, x, y));
            }
            emptyAndFeed(bytes);
            due("printed(" + n + ")", real.printed(n), oracle.printed(n));
        }

        byte[] weights(int n, int most) {
            byte[] bytes = new byte[n];
            for (int i = 0; i < n; i++) {
                bytes[i] = (byte) random.nextInt(most + 1);
            }
            return bytes;
        }

        void ship() {
            int n = about(1, 10);
            emptyAndFeed(weights(10, random.nextBoolean() ? 9 : 255));
            int what = about(0, 1);
            due("ship(" + n + ", " + what + ")", real.ship(n, what), oracle.ship(n, what));
        }

        void mule() {
            int n = about(1, 12);
            int most = random.nextBoolean() ? 9 : 255;
            emptyAndFeed(weights(12, most));
            int much = random.nextInt(5) == 0 ? about(0, 3060) : any(0, most * 6);
            int what = about(0, 2);
            due("mule(" + n + ", " + much + ", " + what + ")", real.mule(n, much, what), oracle.mule(n, much, what));
        }

        void marks() {
            int n = about(1, 5);
            int k = about(1, 6);
            byte[] bytes = weights(5, random.nextInt(3) == 0 ? 101 : 20);
            bytes[0] = (byte) any(1, 3);
            emptyAndFeed(bytes);
            if (random.nextBoolean()) {
                due("marks(" + n + ", " + k + ")", real.marks(n, k), oracle.marks(n, k));
            } else {
                int value = about(1, 600);
                due("franked(" + n + ", " + value + ")", real.franked(n, value), oracle.franked(n, value));
            }
        }

        void exchange() {
            int n = any(2, 6);
            byte[] bytes = new byte[n * n];
            for (int row = 0; row < n; row++) {
                for (int i = 0; i < n; i++) {
                    int k = random.nextInt(i + 1);
                    bytes[row * n + i] = bytes[row * n + k];
                    bytes[row * n + k] = (byte) i;
                }
            }
            if (random.nextInt(10) == 0) {
                bytes[random.nextInt(n * n)] = (byte) random.nextInt(n + 2);
            }
            emptyAndFeed(bytes);
            int asked = random.nextInt(12) == 0 ? about(2, 6) : n;
            int what = about(0, n - 1);
            due("exchange(" + asked + ", " + what + ")", real.exchange(asked, what), oracle.exchange(asked, what));
        }

        void seed() {
            int x = about(0, 65535);
            due("seed(" + x + ")", real.seed(x) ? 1 : 0, oracle.seed(x) ? 1 : 0);
        }

        void check() {
            int n = about(0, 8);
            byte[] bytes = new byte[8];
            for (int l = 0; l < 8; l++) {
                int right = oracle.now.told[l] ? oracle.now.x[l] : 255;
                bytes[l] = (byte) (random.nextInt(15) == 0 ? random.nextInt(24) : right);
            }
            emptyAndFeed(bytes);
            due("check(" + n + ")", real.check(n), oracle.check(n));
        }

        void feedSome(int n) {
            byte[] bytes = new byte[n];
            random.nextBytes(bytes);
            feed(bytes);
        }

        void look(int times) {
            for (int i = 0; i < times && !lost; i++) {
                int l = random.nextInt(6) == 0 ? about(0, 7) : aToldLetter();
                int kind = random.nextInt(8);
                if (kind == 0) {
                    int what = about(0, 8);
                    due("count(" + what + ")", real.count(what), oracle.count(what));
                } else if (kind == 1) {
                    int what = about(0, 1);
                    due("home(" + l + ", " + what + ")", real.home(l, what), oracle.home(l, what));
                } else if (kind < 5) {
                    int what = about(0, 6);
                    due("letterIs(" + l + ", " + what + ")", real.letterIs(l, what), oracle.letterIs(l, what));
                } else {
                    int s = about(0, Math.max(1, oracle.mints.length) - 1);
                    int what = about(0, 3);
                    due("stampIs(" + s + ", " + what + ")", real.stampIs(s, what), oracle.stampIs(s, what));
                }
            }
        }
    }

    /** A FAULT in a TEXT. */
    private static final class Fault extends Exception {
        private static final long serialVersionUID = 1L;
        final int answer;

        Fault(int number, int place) {
            answer = -1000 * number - place;
        }
    }

    /** A division by 0. */
    private static final class Refused extends Exception {
        private static final long serialVersionUID = 1L;
    }

    /** What is KEPT. */
    private static final class State {
        boolean[] told = new boolean[8];
        int[] x = new int[8];
        int[] y = new int[8];
        int[] paste = new int[8];
        boolean[] inWall = new boolean[8];
        List<List<Integer>> on = new ArrayList<>();
        int[] used = new int[48];
        int day = 0;
        long draw = 1;

        State() {
            for (int l = 0; l < 8; l++) {
                on.add(new ArrayList<>());
            }
        }

        State copy() {
            State other = new State();
            other.told = told.clone();
            other.x = x.clone();
            other.y = y.clone();
            other.paste = paste.clone();
            other.inWall = inWall.clone();
            other.on = new ArrayList<>();
            for (List<Integer> each : on) {
                other.on.add(new ArrayList<>(each));
            }
            other.used = used.clone();
            other.day = day;
            other.draw = draw;
            return other;
        }

        int letterOf(int s) {
            for (int l = 0; l < 8; l++) {
                if (on.get(l).contains(s)) {
                    return l;
                }
            }
            return -2;
        }
    }

    /** A piece of THE LAW: a sign with its parts, or a number, or a letter. */
    private static final class Node {
        final char sign;
        final int number;
        final Node left;
        final Node right;

        Node(char sign, int number, Node left, Node right) {
            this.sign = sign;
            this.number = number;
            this.left = left;
            this.right = right;
        }

        int value(int[] facts) throws Refused {
            switch (sign) {
                case '#':
                    return number;
                case '$':
                    return facts[number];
                case '!':
                    return 1 - left.value(facts);
                case '|':
                    return left.value(facts) == 1 ? 1 : right.value(facts);
                case '&':
                    return left.value(facts) == 0 ? 0 : right.value(facts);
                default:
                    break;
            }
            int a = left.value(facts);
            int b = right.value(facts);
            if ((sign == '/' || sign == '%') && b == 0) {
                throw new Refused();
            }
            return switch (sign) {
                case '+' -> a + b;
                case '-' -> a - b;
                case '*' -> a * b;
                case '/' -> a / b;
                case '%' -> a % b;
                case '<' -> a < b ? 1 : 0;
                case '>' -> a > b ? 1 : 0;
                default -> a == b ? 1 : 0;
            };
        }
    }

    private record Rule(char kind, Node worth, Node when) {
        boolean holds(int[] facts) {
            try {
                return when.value(facts) == 1;
            } catch (Refused e) {
                return false;
            }
        }

        int worthOf(int[] facts) {
            try {
                return Math.max(0, Math.min(99, worth.value(facts)));
            } catch (Refused e) {
                return 0;
            }
        }
    }

    /** Reads a TEXT sign by sign. */
    private static final class Text {
        final int[] bytes;
        int at = 0;

        Text(int[] bytes) {
            this.bytes = bytes;
        }

        boolean ended() {
            return at == bytes.length;
        }

        boolean is(char sign) {
            return !ended() && bytes[at] == sign;
        }

        boolean isOneOf(String signs) {
            return !ended() && signs.indexOf(bytes[at]) >= 0;
        }

        char one(String signs) throws Fault {
            if (!isOneOf(signs)) {
                throw new Fault(1, at);
            }
            return (char) bytes[at++];
        }

        int number(int digits) throws Fault {
            String built = String.valueOf(one("0123456789"));
            while (isOneOf("0123456789")) {
                if (built.length() == digits) {
                    throw new Fault(2, at);
                }
                built += one("0123456789");
            }
            return Integer.parseInt(built);
        }

        List<int[]> stamps(int depth, int ahead) throws Fault {
            List<int[]> all = new ArrayList<>();
            do {
                int start = at;
                int times = isOneOf("23456789") ? one("23456789") - '0' : 1;
                List<int[]> some = new ArrayList<>();
                if (is('(')) {
                    if (depth == 2) {
                        throw new Fault(5, at);
                    }
                    at++;
                    some = stamps(depth + 1, ahead + all.size());
                    one(")");
                } else {
                    int m = one("abcdefgh") - 'a';
                    int grains = is('t') ? 1 : is('f') ? 0 : 2;
                    at += grains == 2 ? 0 : 1;
                    some.add(new int[] {m, grains});
                }
                if (ahead + all.size() + times * some.size() > 48) {
                    throw new Fault(6, start);
                }
                for (int i = 0; i < times; i++) {
                    all.addAll(some);
                }
            } while (depth == 0 ? !ended() : !is(')'));
            return all;
        }

        List<Rule> rules() throws Fault {
            List<Rule> all = new ArrayList<>();
            while (true) {
                if (isOneOf("phx") && all.size() == 16) {
                    throw new Fault(4, at);
                }
                char kind = one("phx");
                Node worth = kind == 'x' ? null : sum(0);
                one("(");
                Node when = any(1);
                one(")");
                all.add(new Rule(kind, worth, when));
                if (ended()) {
                    return all;
                }
                one(";");
            }
        }

        Node any(int open) throws Fault {
            Node node = all(open);
            while (is('|')) {
                at++;
                node = new Node('|', 0, node, all(open));
            }
            return node;
        }

        Node all(int open) throws Fault {
            Node node = test(open);
            while (is('&')) {
                at++;
                node = new Node('&', 0, node, test(open));
            }
            return node;
        }

        void open(int open) throws Fault {
            if (open == 6) {
                throw new Fault(5, at);
            }
            at++;
        }

        Node test(int open) throws Fault {
            if (is('!')) {
                open(open);
                return new Node('!', 0, test(open + 1), null);
            }
            if (is('(')) {
                open(open);
                Node node = any(open + 1);
                one(")");
                return node;
            }
            Node left = sum(open);
            char sign = one("<>=");
            return new Node(sign, 0, left, sum(open));
        }

        Node sum(int open) throws Fault {
            Node node = term(open);
            while (isOneOf("+-")) {
                char sign = one("+-");
                node = new Node(sign, 0, node, term(open));
            }
            return node;
        }

        Node term(int open) throws Fault {
            Node node = factor(open);
            while (isOneOf("*/%")) {
                char sign = one("*/%");
                node = new Node(sign, 0, node, factor(open));
            }
            return node;
        }

        Node factor(int open) throws Fault {
            if (is('[')) {
                open(open);
                Node node = sum(open + 1);
                one("]");
                return node;
            }
            if (isOneOf("smgudnltw")) {
                return new Node('$', "smgudnltw".indexOf(one("smgudnltw")), null, null);
            }
            return new Node('#', number(5), null, null);
        }
    }

    /** The document, read once more. */
    private static final class Oracle {
        int[] mintX = new int[8];
        int[] mintY = new int[8];
        boolean[] mintTold = new boolean[8];
        boolean[][] wall = new boolean[24][16];
        int[] mints = new int[0];
        int[] grains = new int[0];
        List<Rule> rules = new ArrayList<>();
        List<Integer> tape = new ArrayList<>();
        State now = new State();
        State kept = null;
        int fell = 0;

        boolean mint(int m, int x, int y) {
            if (m < 0 || m > 7 || !onMap(x, y)) {
                return false;
            }
            mintTold[m] = true;
            mintX[m] = x;
            mintY[m] = y;
            return true;
        }

        static boolean onMap(int x, int y) {
            return x >= 0 && x <= 23 && y >= 0 && y <= 15;
        }

        int feed(int[] words) {
            if (tape.size() > 240) {
                return -1;
            }
            for (int word : words) {
                for (int shift = 24; shift >= 0; shift -= 8) {
                    tape.add(word >>> shift & 255);
                }
            }
            return tape.size();
        }

        /** The first n bytes, null if there are none such; the tape is empty then. */
        int[] take(int n, int least, int most) {
            if (n < least || n > most || n > tape.size()) {
                return null;
            }
            int[] bytes = new int[n];
            for (int i = 0; i < n; i++) {
                bytes[i] = tape.get(i);
            }
            tape.clear();
            return bytes;
        }

        int law(int n) {
            int[] bytes = take(n, 1, 240);
            if (bytes == null) {
                return -1;
            }
            try {
                rules = new Text(bytes).rules();
                return rules.size();
            } catch (Fault fault) {
                return fault.answer;
            }
        }

        int sheet(int n) {
            int[] bytes = take(n, 1, 60);
            if (bytes == null) {
                return -1;
            }
            try {
                List<int[]> all = new Text(bytes).stamps(0, 0);
                mints = all.stream().mapToInt(s -> s[0]).toArray();
                grains = all.stream().mapToInt(s -> s[1]).toArray();
                now.on.forEach(List::clear);
                Arrays.fill(now.used, 0);
                return all.size();
            } catch (Fault fault) {
                return fault.answer;
            }
        }

        int post(int n) {
            int[] bytes = take(n, 1, 120);
            if (bytes == null) {
                return -1;
            }
            State ahead = now.copy();
            boolean[][] walls = new boolean[24][];
            for (int x = 0; x < 24; x++) {
                walls[x] = wall[x].clone();
            }
            try {
                int lines = postLines(new Text(bytes), ahead, walls);
                now = ahead;
                wall = walls;
                return lines;
            } catch (Fault fault) {
                return fault.answer;
            }
        }

        int postLines(Text text, State ahead, boolean[][] walls) throws Fault {
            for (int lines = 1;; lines++) {
                if (lines == 21 && text.isOneOf("01234567#")) {
                    throw new Fault(4, text.at);
                }
                postLine(text, ahead, walls);
                if (text.ended()) {
                    return lines;
                }
                text.one(";");
            }
        }

        void postLine(Text text, State ahead, boolean[][] walls) throws Fault {
            int start = text.at;
            char first = text.one("01234567#");
            if (first == '#') {
                int[] place = place(text);
                walls[place[0]][place[1]] = !walls[place[0]][place[1]];
                return;
            }
            int l = first - '0';
            char sign = text.one("@+-=");
            if (sign == '@') {
                int[] place = place(text);
                ahead.told[l] = true;
                ahead.inWall[l] = false;
                ahead.x[l] = place[0];
                ahead.y[l] = place[1];
                return;
            }
            if (!ahead.told[l]) {
                throw new Fault(7, start);
            }
            int at = text.at;
            int number = text.number(2);
            if (sign == '=') {
                ahead.paste[l] = number;
                return;
            }
            if (number >= mints.length) {
                throw new Fault(7, at);
            }
            if (sign == '-') {
                ahead.on.get(l).remove((Integer) number);
                return;
            }
            ahead.on.forEach(each -> each.remove((Integer) number));
            ahead.on.get(l).add(number);
            ahead.on.get(l).sort(null);
        }

        int[] place(Text text) throws Fault {
            int at = text.at;
            int x = text.number(2);
            if (x > 23) {
                throw new Fault(3, at);
            }
            text.one(",");
            at = text.at;
            int y = text.number(2);
            if (y > 15) {
                throw new Fault(3, at);
            }
            return new int[] {x, y};
        }

        int[] facts(State state, int s, int l, int w) {
            int m = mints[s];
            int steps = Math.abs(mintX[m] - state.x[l]) + Math.abs(mintY[m] - state.y[l]);
            return new int[] {s, m, grains[s], state.used[s], steps, state.on.get(l).size(), l, state.day % 100, w};
        }

        int worth(char kind, int[] facts) {
            for (Rule rule : rules) {
                if (rule.kind() == kind && rule.holds(facts)) {
                    return rule.worthOf(facts);
                }
            }
            return 0;
        }

        /** Steps in one DAY. */
        int day(State state) {
            if (state.day == 9999) {
                return 0;
            }
            int steps = 0;
            for (int l = 0; l < 8; l++) {
                if (state.told[l]) {
                    state.draw = (25173L * state.draw + 13849L) % 65536L;
                    steps += letterDay(state, l, (int) (state.draw % 10));
                }
            }
            state.day++;
            return steps;
        }

        int letterDay(State state, int l, int w) {
            int across = 0;
            int along = 0;
            int[] more = new int[48];
            for (int s : new ArrayList<>(state.on.get(l))) {
                int m = mints[s];
                if (!mintTold[m]) {
                    continue;
                }
                int[] facts = facts(state, s, l, w);
                if (rules.stream().anyMatch(rule -> rule.kind() == 'x' && rule.holds(facts))) {
                    state.on.get(l).remove((Integer) s);
                    fell++;
                    continue;
                }
                more[s] = worth('h', facts);
                int p = worth('p', facts);
                across += p * Integer.signum(mintX[m] - state.x[l]);
                along += p * Integer.signum(mintY[m] - state.y[l]);
            }
            int steps = state.inWall[l] ? 0 : go(state, l, across, along);
            for (int s : state.on.get(l)) {
                state.used[s] = Math.min(999, state.used[s] + more[s]);
            }
            return steps;
        }

        static int[] step(int across, int along, int paste) {
            if (Math.abs(across) <= paste && Math.abs(along) <= paste) {
                return new int[] {0, 0};
            }
            return Math.abs(along) > Math.abs(across)
                ? new int[] {0, Integer.signum(along)} : new int[] {Integer.signum(across), 0};
        }

        int go(State state, int l, int across, int along) {
            int[] step = step(across, along, state.paste[l]);
            if (step[0] == 0 && step[1] == 0) {
                return 0;
            }
            if (wall[state.x[l] + step[0]][state.y[l] + step[1]]) {
                state.inWall[l] = true;
                return 0;
            }
            state.x[l] += step[0];
            state.y[l] += step[1];
            return 1;
        }

        int days(int n) {
            if (n < 1 || n > 100) {
                return -1;
            }
            int steps = 0;
            for (int i = 0; i < n; i++) {
                steps += day(now);
            }
            return steps;
        }

        boolean told(int l) {
            return l >= 0 && l < 8 && now.told[l];
        }

        int tried(int n, int what) {
            boolean letter = what >= 10 && what <= 17 || what >= 20 && what <= 27;
            boolean known = what >= 0 && what <= 2 || letter && told(what % 10)
                || what >= 100 && what < 100 + mints.length;
            if (n < 1 || n > 100 || !known) {
                return -1;
            }
            State state = now.copy();
            fell = 0;
            int steps = 0;
            for (int i = 0; i < n; i++) {
                steps += day(state);
            }
            if (what >= 100) {
                return state.used[what - 100];
            }
            if (letter) {
                return what < 20 ? 24 * state.y[what - 10] + state.x[what - 10] : state.on.get(what - 20).size();
            }
            int walled = 0;
            for (int l = 0; l < 8; l++) {
                walled += state.inWall[l] ? 1 << l : 0;
            }
            return what == 0 ? steps : what == 1 ? fell : walled;
        }

        /** Where a LETTER is now and behind each of n DAYS. */
        int[] path(int l, int n) {
            State state = now.copy();
            int[] path = new int[n + 1];
            for (int i = 0; i <= n; i++) {
                path[i] = 24 * state.y[l] + state.x[l];
                day(state);
            }
            return path;
        }

        int comes(int l, int place, int n) {
            if (!told(l) || place < 0 || place > 383 || n < 1 || n > 100) {
                return -1;
            }
            int[] path = path(l, n);
            for (int i = 0; i <= n; i++) {
                if (path[i] == place) {
                    return i;
                }
            }
            return -2;
        }

        int atRest(int l, int n) {
            if (!told(l) || n < 1 || n > 100) {
                return -1;
            }
            int[] path = path(l, n);
            int first = n;
            while (first > 0 && path[first - 1] == path[n]) {
                first--;
            }
            return first;
        }

        int meet(int l, int k, int n) {
            if (!told(l) || !told(k) || l == k || n < 1 || n > 100) {
                return -1;
            }
            int[] one = path(l, n);
            int[] other = path(k, n);
            for (int i = 0; i <= n; i++) {
                if (one[i] == other[i]) {
                    return i;
                }
            }
            return -2;
        }

        int again(int l, int n) {
            if (!told(l) || n < 1 || n > 100) {
                return -1;
            }
            int[] path = path(l, n);
            for (int i = 2; i <= n; i++) {
                for (int j = 0; j < i; j++) {
                    for (int k = j + 1; k < i; k++) {
                        if (path[i] == path[j] && path[k] != path[i]) {
                            return i;
                        }
                    }
                }
            }
            return -2;
        }

        int letterIs(int l, int what) {
            if (!told(l) || what < 0 || what > 6) {
                return -1000;
            }
            List<Integer> on = now.on.get(l);
            int across = 0;
            int along = 0;
            for (int s : on) {
                if (mintTold[mints[s]]) {
                    across += grains[s] * Integer.signum(mintX[mints[s]] - now.x[l]);
                    along += grains[s] * Integer.signum(mintY[mints[s]] - now.y[l]);
                }
            }
            int lowest = on.isEmpty() ? -2 : on.get(0);
            int place = 24 * now.y[l] + now.x[l];
            int[] all = {place, now.paste[l], now.inWall[l] ? 1 : 0, on.size(), lowest, across, along};
            return all[what];
        }

        int stampIs(int s, int what) {
            if (s < 0 || s >= mints.length || what < 0 || what > 3) {
                return -1;
            }
            return new int[] {mints[s], grains[s], now.used[s], now.letterOf(s)}[what];
        }

        int home(int l, int what) {
            if (!told(l) || what < 0 || what > 1) {
                return -1;
            }
            int[] sums = new int[8];
            now.on.get(l).forEach(s -> sums[mints[s]] += grains[s]);
            int most = Arrays.stream(sums).max().orElse(0);
            if (what == 1) {
                return most;
            }
            for (int m = 0; m < 8; m++) {
                if (most > 0 && sums[m] == most) {
                    return m;
                }
            }
            return -2;
        }

        int lying(int place) {
            if (place < 0 || place > 383) {
                return -1;
            }
            int bits = 0;
            for (int l = 7; l >= 0; l--) {
                bits = 2 * bits + (now.told[l] && 24 * now.y[l] + now.x[l] == place ? 1 : 0);
            }
            return bits;
        }

        boolean known(int[] crew) {
            return Arrays.stream(crew).allMatch(s -> s < mints.length && mintTold[mints[s]]);
        }

        int[] pulls(int[] crew, int bits, int x, int y) {
            int[] sums = new int[2];
            for (int i = 0; i < crew.length; i++) {
                int m = mints[crew[i]];
                int much = (bits & 1 << i) != 0 ? grains[crew[i]] : 0;
                sums[0] += mintX[m] > x ? much : mintX[m] < x ? -much : 0;
                sums[1] += mintY[m] > y ? much : mintY[m] < y ? -much : 0;
            }
            return sums;
        }

        /** All bits of n, the fewest first, of like ones the least first. */
        static List<Integer> fewestFirst(int n) {
            List<Integer> all = new ArrayList<>();
            for (int bits = 0; bits < 1 << n; bits++) {
                all.add(bits);
            }
            all.sort((a, b) -> Integer.bitCount(a) != Integer.bitCount(b)
                ? Integer.bitCount(a) - Integer.bitCount(b) : a - b);
            return all;
        }

        int stamped(int n, int from, int to, int days, int what) {
            if (from < 0 || from > 383 || to < 0 || to > 383 || days < 0 || days > 60 || what < 0 || what > 1) {
                return -1;
            }
            int[] crew = take(n, 1, 9);
            if (crew == null) {
                return -1;
            }
            if (!known(crew)) {
                return -3;
            }
            for (int bits : fewestFirst(n)) {
                int x = from % 24;
                int y = from / 24;
                boolean walled = false;
                for (int i = 0; i < days; i++) {
                    int[] sums = pulls(crew, bits, x, y);
                    int[] step = step(sums[0], sums[1], 0);
                    if (!walled && (step[0] != 0 || step[1] != 0) && wall[x + step[0]][y + step[1]]) {
                        walled = true;
                    }
                    x += walled ? 0 : step[0];
                    y += walled ? 0 : step[1];
                }
                if (!walled && 24 * y + x == to) {
                    return what == 0 ? Integer.bitCount(bits) : bits;
                }
            }
            return -2;
        }

        int hang(int n, int place, int what) {
            if (place < 0 || place > 383 || what < 0 || what > 1) {
                return -1;
            }
            int[] crew = take(n, 1, 9);
            if (crew == null) {
                return -1;
            }
            if (!known(crew)) {
                return -3;
            }
            int ways = 0;
            int first = -2;
            for (int bits : fewestFirst(n)) {
                int[] sums = pulls(crew, bits, place % 24, place / 24);
                if (bits != 0 && sums[0] == 0 && sums[1] == 0) {
                    ways++;
                    first = first == -2 ? bits : first;
                }
            }
            return what == 0 ? ways : first;
        }

        int falseOnes(int n, int place, int across, int along, int what) {
            if (place < 0 || place > 383 || across < -1 || across > 1 || along < -1 || along > 1
                || what < 0 || what > 1) {
                return -1;
            }
            int[] crew = take(n, 1, 9);
            if (crew == null) {
                return -1;
            }
            if (!known(crew)) {
                return -3;
            }
            for (int bits : fewestFirst(n)) {
                boolean tellsFalse = false;
                for (int i = 0; i < n; i++) {
                    tellsFalse |= (bits & 1 << i) != 0 && grains[crew[i]] == 0;
                }
                int[] sums = pulls(crew, ~bits, place % 24, place / 24);
                int[] step = step(sums[0], sums[1], 0);
                if (!tellsFalse && step[0] == across && step[1] == along) {
                    return what == 0 ? Integer.bitCount(bits) : bits;
                }
            }
            return -2;
        }

        int way(int m, int x, int y) {
            return (mintX[m] > x ? 1 : 0) + (mintX[m] < x ? 2 : 0) + (mintY[m] > y ? 4 : 0) + (mintY[m] < y ? 8 : 0);
        }

        int printed(int n) {
            if (n < 1 || n > 10) {
                return -1;
            }
            int[] bytes = take(3 * n, 3, 30);
            if (bytes == null) {
                return -1;
            }
            int bits = 0;
            for (int m = 0; m < 8; m++) {
                boolean fits = mintTold[m];
                for (int i = 0; i < n; i++) {
                    fits &= way(m, bytes[3 * i], bytes[3 * i + 1]) == bytes[3 * i + 2];
                }
                bits |= fits ? 1 << m : 0;
            }
            return bits;
        }

        static int sum(int[] bytes, int bits) {
            int sum = 0;
            for (int i = 0; i < bytes.length; i++) {
                sum += (bits & 1 << i) != 0 ? bytes[i] : 0;
            }
            return sum;
        }

        int ship(int n, int what) {
            if (what < 0 || what > 1) {
                return -1;
            }
            int[] bytes = take(n, 1, 10);
            if (bytes == null) {
                return -1;
            }
            int least = Integer.MAX_VALUE;
            int which = 0;
            for (int bits = 0; bits < 1 << n; bits++) {
                int lists = Math.abs(sum(bytes, bits) - sum(bytes, ~bits));
                if (bits % 2 == 1 && lists < least) {
                    least = lists;
                    which = bits;
                }
            }
            return what == 0 ? least : which;
        }

        int mule(int n, int much, int what) {
            if (what < 0 || what > 2 || much < 0 || much > 3060) {
                return -1;
            }
            int[] bytes = take(n, 1, 12);
            if (bytes == null) {
                return -1;
            }
            int best = -2;
            for (int bits : fewestFirst(n)) {
                if (sum(bytes, bits) >= much && (best == -2 || Integer.bitCount(bits) == Integer.bitCount(best)
                    && sum(bytes, bits) < sum(bytes, best))) {
                    best = bits;
                }
            }
            if (best == -2) {
                return -2;
            }
            return what == 0 ? Integer.bitCount(best) : what == 1 ? best : sum(bytes, best);
        }

        /** Which values can be franked with just so many stamps, from 0 to 600 stamps. */
        static int fewest(int[] values, int value) {
            boolean[] can = new boolean[601];
            can[0] = true;
            for (int many = 0; many <= 600; many++) {
                if (can[value]) {
                    return many;
                }
                boolean[] next = new boolean[601];
                for (int v = 0; v <= 600; v++) {
                    for (int stamp : values) {
                        if (can[v] && v + stamp <= 600) {
                            next[v + stamp] = true;
                        }
                    }
                }
                can = next;
            }
            return -3;
        }

        int marks(int n, int k) {
            if (k < 1 || k > 6) {
                return -1;
            }
            int[] values = take(n, 1, 5);
            if (values == null) {
                return -1;
            }
            if (Arrays.stream(values).anyMatch(v -> v < 1 || v > 100)) {
                return -2;
            }
            for (int value = 1; value <= 600; value++) {
                int many = fewest(values, value);
                if (many == -3 || many > k) {
                    return value - 1;
                }
            }
            return 600;
        }

        int franked(int n, int value) {
            if (value < 1 || value > 600) {
                return -1;
            }
            int[] values = take(n, 1, 5);
            if (values == null) {
                return -1;
            }
            if (Arrays.stream(values).anyMatch(v -> v < 1 || v > 100)) {
                return -2;
            }
            return fewest(values, value);
        }

        int exchange(int n, int what) {
            if (n < 2 || n > 6 || what < 0 || what >= n) {
                return -1;
            }
            int[] bytes = take(n * n, 4, 36);
            if (bytes == null) {
                return -1;
            }
            List<List<Integer>> rows = new ArrayList<>();
            for (int i = 0; i < n; i++) {
                List<Integer> row = new ArrayList<>();
                for (int k = 0; k < n; k++) {
                    row.add(bytes[i * n + k]);
                }
                for (int k = 0; k < n; k++) {
                    if (!row.contains(k)) {
                        return -2;
                    }
                }
                rows.add(row);
            }
            return trade(rows, what);
        }

        static int trade(List<List<Integer>> rows, int what) {
            List<Integer> left = new ArrayList<>();
            for (int i = 0; i < rows.size(); i++) {
                left.add(i);
            }
            while (true) {
                int[] points = new int[rows.size()];
                for (int who : left) {
                    points[who] = rows.get(who).stream().filter(left::contains).findFirst().orElseThrow();
                }
                List<Integer> gone = new ArrayList<>();
                for (int who : left) {
                    int at = points[who];
                    for (int i = 0; i < rows.size() && at != who; i++) {
                        at = points[at];
                    }
                    if (at == who) {
                        gone.add(who);
                    }
                }
                if (gone.contains(what)) {
                    return points[what];
                }
                left.removeAll(gone);
            }
        }

        boolean seed(int x) {
            if (x < 0 || x > 65535) {
                return false;
            }
            now.draw = x;
            return true;
        }

        int keep() {
            kept = now.copy();
            return now.day;
        }

        boolean undo() {
            if (kept == null) {
                return false;
            }
            now = kept.copy();
            now.on.forEach(each -> each.removeIf(s -> s >= mints.length));
            Arrays.fill(now.used, mints.length, 48, 0);
            return true;
        }

        int check(int n) {
            int[] bytes = take(n, 0, 8);
            if (bytes == null) {
                return -2;
            }
            for (int l = 0; l < n; l++) {
                if (bytes[l] != (now.told[l] ? now.x[l] : 255)) {
                    return l;
                }
            }
            return -1;
        }

        int count(int what) {
            int toldMints = 0;
            int toldLetters = 0;
            int onLetters = 0;
            for (int i = 0; i < 8; i++) {
                toldMints |= mintTold[i] ? 1 << i : 0;
                toldLetters |= now.told[i] ? 1 << i : 0;
                onLetters += now.on.get(i).size();
            }
            int walls = 0;
            for (boolean[] column : wall) {
                for (boolean each : column) {
                    walls += each ? 1 : 0;
                }
            }
            int[] all = {now.day, toldMints, toldLetters, mints.length, onLetters, walls, rules.size(), tape.size(),
                (int) now.draw};
            return what >= 0 && what < all.length ? all[what] : -1;
        }
    }
}
