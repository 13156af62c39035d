import java.util.Arrays;

/** A republic of letters that go by themselves, because their stamps pull to where they were printed. */
public final class HomesickStamps {
    public static final int NONE = -1;

    private static final int NOTHING = -2;
    private static final int NO_SUCH_STAMP = -3;
    private static final int NO_SUCH_LETTER = -1000;

    private static final int WIDE = 24;
    private static final int HIGH = 16;
    private static final int PLACES = WIDE * HIGH;
    private static final int MINTS = 8;
    private static final int LETTERS = 8;
    private static final int STAMPS = 48;
    private static final int MOST_USED = 999;
    private static final int LAST_DAY = 9999;
    private static final int MOST_DAYS = 100;

    private static final int RIGHT = 1;
    private static final int LEFT = 2;
    private static final int DOWN = 4;
    private static final int UP = 8;

    private final Tape tape;
    private final Republic republic;
    private final Letters now;
    private final Letters kept;
    private final Letters trial;
    private final Clerk clerk;
    private final Crew crew;
    private final Riddles riddles;
    private final SheetReader sheetReader;
    private final PostReader postReader;
    private final LawReader lawReader;
    private final int[] seen;
    private Law rules;
    private Law spareRules;
    private boolean wasKept;

    public HomesickStamps() {
        tape = new Tape();
        republic = new Republic();
        now = new Letters();
        kept = new Letters();
        trial = new Letters();
        clerk = new Clerk(republic);
        crew = new Crew(republic);
        riddles = new Riddles(tape);
        sheetReader = new SheetReader(tape);
        postReader = new PostReader(tape);
        seen = new int[PLACES];
        rules = new Law();
        spareRules = new Law();
        lawReader = new LawReader(tape, spareRules);
        wasKept = false;
    }

    public boolean mint(int m, int x, int y) {
        if (!within(m, 0, MINTS - 1) || !within(x, 0, WIDE - 1) || !within(y, 0, HIGH - 1)) {
            return false;
        }
        republic.tellMint(m, x, y);
        return true;
    }

    public int feed(int a, int b, int c, int d, int e) {
        if (!tape.hasRoom(20)) {
            return NONE;
        }
        tape.takeWord(a);
        tape.takeWord(b);
        tape.takeWord(c);
        tape.takeWord(d);
        tape.takeWord(e);
        return tape.size();
    }

    public int law(int n) {
        if (!tape.canGive(n, 1, 240)) {
            return NONE;
        }
        int answer = lawReader.read(n, spareRules);
        tape.empty();
        if (answer >= 0) {
            Law before = rules;
            rules = spareRules;
            spareRules = before;
        }
        return answer;
    }

    public int sheet(int n) {
        if (!tape.canGive(n, 1, 60)) {
            return NONE;
        }
        int answer = sheetReader.read(n);
        tape.empty();
        if (answer >= 0) {
            sheetReader.printInto(republic);
            now.peelFrom(0);
        }
        return answer;
    }

    public int post(int n) {
        if (!tape.canGive(n, 1, 120)) {
            return NONE;
        }
        int answer = postReader.read(n, now.toldBits(), republic.stamps());
        tape.empty();
        if (answer >= 0) {
            postReader.carryOut(now, republic);
        }
        return answer;
    }

    public int days(int n) {
        if (!within(n, 1, MOST_DAYS)) {
            return NONE;
        }
        return clerk.passDays(rules, now, n);
    }

    public int tried(int n, int what) {
        if (!within(n, 1, MOST_DAYS) || !canBeTried(what)) {
            return NONE;
        }
        trial.copyFrom(now);
        int steps = clerk.passDays(rules, trial, n);
        if (what == 0) {
            return steps;
        }
        if (what == 1) {
            return clerk.fallen();
        }
        if (what == 2) {
            return trial.walledBits();
        }
        if (what >= 100) {
            return trial.usedOf(what - 100);
        }
        return what >= 20 ? trial.stampsOn(what - 20) : trial.placeOf(what - 10);
    }

    private boolean canBeTried(int what) {
        if (within(what, 10, 17)) {
            return now.isTold(what - 10);
        }
        if (within(what, 20, 27)) {
            return now.isTold(what - 20);
        }
        return within(what, 0, 2) || within(what, 100, 100 + republic.stamps() - 1);
    }

    public int letterIs(int l, int what) {
        if (!now.isTold(l)) {
            return NO_SUCH_LETTER;
        }
        switch (what) {
            case 0:
                return now.placeOf(l);
            case 1:
                return now.pasteOf(l);
            case 2:
                return now.isWalled(l) ? 1 : 0;
            case 3:
                return now.stampsOn(l);
            case 4:
                return now.lowestOn(l);
            case 5:
                return plainPull(l, true);
            case 6:
                return plainPull(l, false);
            default:
                return NO_SUCH_LETTER;
        }
    }

    private int plainPull(int l, boolean across) {
        int place = now.placeOf(l);
        int sum = 0;
        for (int s = 0; s < STAMPS; s++) {
            if (now.isOn(s, l) && republic.isPulling(s)) {
                sum += republic.grainsOf(s) * (across ? republic.across(s, place) : republic.along(s, place));
            }
        }
        return sum;
    }

    public int stampIs(int s, int what) {
        if (!within(s, 0, republic.stamps() - 1)) {
            return NONE;
        }
        switch (what) {
            case 0:
                return republic.mintOf(s);
            case 1:
                return republic.grainsOf(s);
            case 2:
                return now.usedOf(s);
            case 3:
                return now.letterOf(s);
            default:
                return NONE;
        }
    }

    public int comes(int l, int place, int n) {
        if (!now.isTold(l) || !isPlace(place) || !within(n, 1, MOST_DAYS)) {
            return NONE;
        }
        trial.copyFrom(now);
        for (int day = 0; day <= n; day++) {
            if (trial.placeOf(l) == place) {
                return day;
            }
            clerk.passDays(rules, trial, 1);
        }
        return NOTHING;
    }

    public int atRest(int l, int n) {
        if (!now.isTold(l) || !within(n, 1, MOST_DAYS)) {
            return NONE;
        }
        trial.copyFrom(now);
        int lastMove = 0;
        for (int day = 1; day <= n; day++) {
            int before = trial.placeOf(l);
            clerk.passDays(rules, trial, 1);
            if (trial.placeOf(l) != before) {
                lastMove = day;
            }
        }
        return lastMove;
    }

    public int meet(int l, int k, int n) {
        if (!now.isTold(l) || !now.isTold(k) || l == k || !within(n, 1, MOST_DAYS)) {
            return NONE;
        }
        trial.copyFrom(now);
        for (int day = 0; day <= n; day++) {
            if (trial.placeOf(l) == trial.placeOf(k)) {
                return day;
            }
            clerk.passDays(rules, trial, 1);
        }
        return NOTHING;
    }

    public int again(int l, int n) {
        if (!now.isTold(l) || !within(n, 1, MOST_DAYS)) {
            return NONE;
        }
        trial.copyFrom(now);
        Arrays.fill(seen, 0);
        markSeen(trial.placeOf(l));
        for (int day = 1; day <= n; day++) {
            int before = trial.placeOf(l);
            clerk.passDays(rules, trial, 1);
            int place = trial.placeOf(l);
            // a LETTER that has just moved to a seen PLACE has been elsewhere: where it came from
            if (place != before && wasSeen(place)) {
                return day;
            }
            markSeen(place);
        }
        return NOTHING;
    }

    private void markSeen(int place) {
        if (isPlace(place)) {
            seen[place] = 1;
        }
    }

    private boolean wasSeen(int place) {
        return isPlace(place) && seen[place] == 1;
    }

    public int home(int l, int what) {
        if (!now.isTold(l) || !within(what, 0, 1)) {
            return NONE;
        }
        int best = NOTHING;
        int most = 0;
        for (int m = 0; m < MINTS; m++) {
            int grains = grainsFrom(l, m);
            if (grains > most) {
                most = grains;
                best = m;
            }
        }
        return what == 0 ? best : most;
    }

    private int grainsFrom(int l, int m) {
        int grains = 0;
        for (int s = 0; s < STAMPS; s++) {
            if (now.isOn(s, l) && republic.mintOf(s) == m) {
                grains += republic.grainsOf(s);
            }
        }
        return grains;
    }

    public int lying(int place) {
        if (!isPlace(place)) {
            return NONE;
        }
        int bits = 0;
        for (int l = 0; l < LETTERS; l++) {
            if (now.isTold(l) && now.placeOf(l) == place) {
                bits |= 1 << l;
            }
        }
        return bits;
    }

    public int stamped(int n, int from, int to, int days, int what) {
        if (!isPlace(from) || !isPlace(to) || !within(days, 0, 60) || !within(what, 0, 1)
                || !tape.canGive(n, 1, Crew.MOST)) {
            return NONE;
        }
        if (!gatherCrew(n)) {
            return NO_SUCH_STAMP;
        }
        return sizeOrBits(crew.fewestToBring(from, to, days), what);
    }

    public int hang(int n, int place, int what) {
        if (!isPlace(place) || !within(what, 0, 1) || !tape.canGive(n, 1, Crew.MOST)) {
            return NONE;
        }
        if (!gatherCrew(n)) {
            return NO_SUCH_STAMP;
        }
        return what == 0 ? crew.waysToHang(place) : crew.fewestToHang(place);
    }

    public int falseOnes(int n, int place, int across, int along, int what) {
        if (!isPlace(place) || !within(across, -1, 1) || !within(along, -1, 1) || !within(what, 0, 1)
                || !tape.canGive(n, 1, Crew.MOST)) {
            return NONE;
        }
        if (!gatherCrew(n)) {
            return NO_SUCH_STAMP;
        }
        if (across != 0 && along != 0) {
            return NOTHING;
        }
        return sizeOrBits(crew.fewestFalse(place, wayBits(across, along)), what);
    }

    private boolean gatherCrew(int n) {
        boolean all = crew.gather(tape, n);
        tape.empty();
        return all;
    }

    private static int sizeOrBits(int bits, int what) {
        return bits < 0 || what == 1 ? bits : Integer.bitCount(bits);
    }

    public int printed(int n) {
        if (!within(n, 1, 10) || !tape.canGive(3 * n, 3, 30)) {
            return NONE;
        }
        int bits = 0;
        for (int m = 0; m < MINTS; m++) {
            if (republic.isToldMint(m) && fitsAllPulls(m, n)) {
                bits |= 1 << m;
            }
        }
        tape.empty();
        return bits;
    }

    private boolean fitsAllPulls(int m, int n) {
        for (int i = 0; i < n; i++) {
            if (republic.wayTo(m, tape.at(3 * i), tape.at(3 * i + 1)) != tape.at(3 * i + 2)) {
                return false;
            }
        }
        return true;
    }

    public int ship(int n, int what) {
        if (!within(what, 0, 1) || !tape.canGive(n, 1, 10)) {
            return NONE;
        }
        riddles.loadShip(n);
        tape.empty();
        return what == 0 ? riddles.grains() : riddles.bits();
    }

    public int mule(int n, int much, int what) {
        if (!within(what, 0, 2) || !within(much, 0, 3060) || !tape.canGive(n, 1, 12)) {
            return NONE;
        }
        boolean can = riddles.loadMule(n, much);
        tape.empty();
        if (!can) {
            return NOTHING;
        }
        if (what == 2) {
            return riddles.grains();
        }
        return sizeOrBits(riddles.bits(), what);
    }

    public int marks(int n, int k) {
        if (!within(k, 1, 6) || !tape.canGive(n, 1, 5)) {
            return NONE;
        }
        boolean can = riddles.reckonStamps(n);
        tape.empty();
        return can ? riddles.frankedUpTo(k) : NOTHING;
    }

    public int franked(int n, int value) {
        if (!within(value, 1, Riddles.MOST_VALUE) || !tape.canGive(n, 1, 5)) {
            return NONE;
        }
        boolean can = riddles.reckonStamps(n);
        tape.empty();
        return can ? riddles.stampsFor(value) : NOTHING;
    }

    public int exchange(int n, int what) {
        if (!within(n, 2, Riddles.COLLECTORS) || !within(what, 0, n - 1) || !tape.canGive(n * n, 4, 36)) {
            return NONE;
        }
        boolean can = riddles.exchangeStamps(n);
        tape.empty();
        return can ? riddles.stampGotBy(what) : NOTHING;
    }

    public boolean seed(int x) {
        if (!within(x, 0, 65535)) {
            return false;
        }
        now.seedWith(x);
        return true;
    }

    public int keep() {
        kept.copyFrom(now);
        wasKept = true;
        return now.day();
    }

    public boolean undo() {
        if (!wasKept) {
            return false;
        }
        now.copyFrom(kept);
        // the SHEET may have fewer STAMPS by now than were KEPT
        now.peelFrom(republic.stamps());
        return true;
    }

    public int check(int n) {
        if (!tape.canGive(n, 0, LETTERS)) {
            return NOTHING;
        }
        int wrong = NONE;
        for (int l = n - 1; l >= 0; l--) {
            int x = now.isTold(l) ? now.placeOf(l) % WIDE : 255;
            if (tape.at(l) != x) {
                wrong = l;
            }
        }
        tape.empty();
        return wrong;
    }

    public int count(int what) {
        switch (what) {
            case 0:
                return now.day();
            case 1:
                return republic.toldMints();
            case 2:
                return now.toldBits();
            case 3:
                return republic.stamps();
            case 4:
                return now.stampsOnAll();
            case 5:
                return republic.walls();
            case 6:
                return rules.size();
            case 7:
                return tape.size();
            case 8:
                return now.drawState();
            default:
                return NONE;
        }
    }

    private static boolean within(int value, int low, int high) {
        return value >= low && value <= high;
    }

    private static boolean isPlace(int place) {
        return within(place, 0, PLACES - 1);
    }

    /** 1 if that lies further on, -1 if further back, else 0. */
    private static int side(int from, int to) {
        if (from == to) {
            return 0;
        }
        return to > from ? 1 : -1;
    }

    private static int wayBits(int across, int along) {
        int bits = 0;
        if (across != 0) {
            bits |= across > 0 ? RIGHT : LEFT;
        }
        if (along != 0) {
            bits |= along > 0 ? DOWN : UP;
        }
        return bits;
    }

    /** The way that pulls move a LETTER: one bit, or 0 if PASTE holds it. */
    private static int wayOfPulls(int across, int along, int paste) {
        int acrossPull = Math.abs(across);
        int alongPull = Math.abs(along);
        if (Math.max(acrossPull, alongPull) <= paste) {
            return 0;
        }
        return acrossPull >= alongPull ? wayBits(across, 0) : wayBits(0, along);
    }

    /** The PLACE a step that way, NONE beyond the edge. */
    private static int stepFrom(int place, int way) {
        int x = place % WIDE;
        int y = place / WIDE;
        if (way == RIGHT) {
            x++;
        } else if (way == LEFT) {
            x--;
        } else if (way == DOWN) {
            y++;
        } else if (way == UP) {
            y--;
        }
        return within(x, 0, WIDE - 1) && within(y, 0, HIGH - 1) ? WIDE * y + x : NONE;
    }

    /** The bytes that were fed. */
    private static final class Tape {
        private final int[] bytes = new int[260];
        private int size = 0;

        int size() {
            return size;
        }

        boolean hasRoom(int more) {
            return size + more <= bytes.length;
        }

        boolean canGive(int n, int least, int most) {
            return within(n, least, most) && n <= size;
        }

        void takeWord(int word) {
            takeByte(word >>> 24);
            takeByte(word >>> 16);
            takeByte(word >>> 8);
            takeByte(word);
        }

        private void takeByte(int value) {
            if (size < bytes.length) {
                bytes[size] = value & 255;
                size++;
            }
        }

        int at(int i) {
            return within(i, 0, size - 1) ? bytes[i] : NONE;
        }

        void empty() {
            size = 0;
        }
    }

    /** What stays when all else is UNDONE: MINTS, WALLS, and STAMPS as they were printed. */
    private static final class Republic {
        private final int[] mintX = new int[MINTS];
        private final int[] mintY = new int[MINTS];
        private final boolean[] wall = new boolean[PLACES];
        private final int[] mintOf = new int[STAMPS];
        private final int[] grainsOf = new int[STAMPS];
        private int toldMints = 0;
        private int walls = 0;
        private int stamps = 0;

        void tellMint(int m, int x, int y) {
            if (within(m, 0, MINTS - 1)) {
                mintX[m] = x;
                mintY[m] = y;
                toldMints |= 1 << m;
            }
        }

        boolean isToldMint(int m) {
            return within(m, 0, MINTS - 1) && (toldMints >> m & 1) == 1;
        }

        int toldMints() {
            return toldMints;
        }

        int walls() {
            return walls;
        }

        boolean isWall(int place) {
            return isPlace(place) && wall[place];
        }

        void turnWall(int place) {
            if (isPlace(place)) {
                wall[place] = !wall[place];
                walls += wall[place] ? 1 : -1;
            }
        }

        void clearStamps() {
            stamps = 0;
        }

        void print(int m, int grains) {
            if (stamps < STAMPS) {
                mintOf[stamps] = m;
                grainsOf[stamps] = grains;
                stamps++;
            }
        }

        int stamps() {
            return stamps;
        }

        boolean isStamp(int s) {
            return s >= 0 && s < stamps && s < STAMPS;
        }

        int mintOf(int s) {
            return isStamp(s) ? mintOf[s] : NONE;
        }

        /** 2 WHOLE, 1 TORN, 0 FALSE: what it pulls plainly, too. */
        int grainsOf(int s) {
            return isStamp(s) ? grainsOf[s] : 0;
        }

        boolean isPulling(int s) {
            return isToldMint(mintOf(s));
        }

        /** 1: the STAMP's MINT lies to the right of the PLACE, -1: to the left. */
        int across(int s, int place) {
            int m = mintOf(s);
            return within(m, 0, MINTS - 1) ? side(place % WIDE, mintX[m]) : 0;
        }

        /** 1: the STAMP's MINT lies below the PLACE, -1: above. */
        int along(int s, int place) {
            int m = mintOf(s);
            return within(m, 0, MINTS - 1) ? side(place / WIDE, mintY[m]) : 0;
        }

        int stepsHome(int s, int place) {
            int m = mintOf(s);
            if (!within(m, 0, MINTS - 1)) {
                return 0;
            }
            return Math.abs(mintX[m] - place % WIDE) + Math.abs(mintY[m] - place / WIDE);
        }

        /** Bits of which way the MINT lies; X and Y may lie beyond the map. */
        int wayTo(int m, int x, int y) {
            return within(m, 0, MINTS - 1) ? wayBits(side(x, mintX[m]), side(y, mintY[m])) : 0;
        }
    }

    /** What DAYS change, and what is KEPT: LETTERS, STAMPS on them, USED, THE DAY, X. */
    private static final class Letters {
        private final int[] place = new int[LETTERS];
        private final int[] paste = new int[LETTERS];
        private final int[] letter = new int[STAMPS];
        private final int[] used = new int[STAMPS];
        private int told = 0;
        private int walled = 0;
        private int day = 0;
        private int drawState = 1;

        Letters() {
            Arrays.fill(letter, NOTHING);
        }

        void copyFrom(Letters other) {
            System.arraycopy(other.place, 0, place, 0, LETTERS);
            System.arraycopy(other.paste, 0, paste, 0, LETTERS);
            System.arraycopy(other.letter, 0, letter, 0, STAMPS);
            System.arraycopy(other.used, 0, used, 0, STAMPS);
            told = other.told;
            walled = other.walled;
            day = other.day;
            drawState = other.drawState;
        }

        boolean isTold(int l) {
            return within(l, 0, LETTERS - 1) && (told >> l & 1) == 1;
        }

        int toldBits() {
            return told;
        }

        boolean isWalled(int l) {
            return within(l, 0, LETTERS - 1) && (walled >> l & 1) == 1;
        }

        int walledBits() {
            return walled;
        }

        int placeOf(int l) {
            return within(l, 0, LETTERS - 1) ? place[l] : NONE;
        }

        int pasteOf(int l) {
            return within(l, 0, LETTERS - 1) ? paste[l] : 0;
        }

        void lay(int l, int at) {
            if (within(l, 0, LETTERS - 1)) {
                place[l] = at;
                told |= 1 << l;
                walled &= ~(1 << l);
            }
        }

        void go(int l, int to) {
            if (within(l, 0, LETTERS - 1)) {
                place[l] = to;
            }
        }

        void wallIn(int l) {
            if (within(l, 0, LETTERS - 1)) {
                walled |= 1 << l;
            }
        }

        void putPaste(int l, int much) {
            if (within(l, 0, LETTERS - 1)) {
                paste[l] = much;
            }
        }

        int letterOf(int s) {
            return within(s, 0, STAMPS - 1) ? letter[s] : NOTHING;
        }

        boolean isOn(int s, int l) {
            return letterOf(s) == l;
        }

        void stick(int s, int l) {
            if (within(s, 0, STAMPS - 1)) {
                letter[s] = l;
            }
        }

        void peel(int s) {
            stick(s, NOTHING);
        }

        /** STAMPS from this number on are as new ones. */
        void peelFrom(int first) {
            for (int s = Math.max(first, 0); s < STAMPS; s++) {
                letter[s] = NOTHING;
                used[s] = 0;
            }
        }

        int stampsOn(int l) {
            int many = 0;
            for (int s = 0; s < STAMPS; s++) {
                many += letter[s] == l ? 1 : 0;
            }
            return many;
        }

        int stampsOnAll() {
            return STAMPS - stampsOn(NOTHING);
        }

        int lowestOn(int l) {
            for (int s = 0; s < STAMPS; s++) {
                if (letter[s] == l) {
                    return s;
                }
            }
            return NOTHING;
        }

        int usedOf(int s) {
            return within(s, 0, STAMPS - 1) ? used[s] : 0;
        }

        void useMore(int s, int much) {
            if (within(s, 0, STAMPS - 1)) {
                used[s] = Math.min(used[s] + much, MOST_USED);
            }
        }

        int day() {
            return day;
        }

        void endDay() {
            day++;
        }

        int drawState() {
            return drawState;
        }

        void seedWith(int x) {
            drawState = x;
        }

        int draw() {
            drawState = (25173 * drawState + 13849) & 65535;
            return drawState % 10;
        }
    }

    /** Lets DAYS go by. */
    private static final class Clerk {
        private final Republic republic;
        private final int[] facts = new int[Law.FACTS];
        private final int[] moreUsed = new int[STAMPS];
        private int acrossSum = 0;
        private int alongSum = 0;
        private int fallen = 0;

        Clerk(Republic republic) {
            this.republic = republic;
        }

        /** How many STAMPS fell off in the DAYS that went by last. */
        int fallen() {
            return fallen;
        }

        /** How many steps all LETTERS went. */
        int passDays(Law rules, Letters letters, int n) {
            fallen = 0;
            int steps = 0;
            for (int i = 0; i < n && letters.day() < LAST_DAY; i++) {
                for (int l = 0; l < LETTERS; l++) {
                    if (letters.isTold(l)) {
                        steps += passLetter(rules, letters, l);
                    }
                }
                letters.endDay();
            }
            return steps;
        }

        private int passLetter(Law rules, Letters letters, int l) {
            facts[Law.DRAWN] = letters.draw();
            facts[Law.LETTER] = l;
            facts[Law.DAY] = letters.day() % 100;
            facts[Law.MANY] = letters.stampsOn(l);
            acrossSum = 0;
            alongSum = 0;
            for (int s = 0; s < STAMPS; s++) {
                if (letters.isOn(s, l) && republic.isPulling(s)) {
                    pull(rules, letters, s, l);
                }
            }
            int steps = step(letters, l);
            for (int s = 0; s < STAMPS; s++) {
                if (letters.isOn(s, l) && republic.isPulling(s)) {
                    letters.useMore(s, moreUsed[s]);
                }
            }
            return steps;
        }

        private void learn(Letters letters, int s, int l) {
            facts[Law.STAMP] = s;
            facts[Law.MINT] = republic.mintOf(s);
            facts[Law.GRAINS] = republic.grainsOf(s);
            facts[Law.USED] = letters.usedOf(s);
            facts[Law.STEPS] = republic.stepsHome(s, letters.placeOf(l));
        }

        private void pull(Law rules, Letters letters, int s, int l) {
            learn(letters, s, l);
            if (rules.letsFall(facts)) {
                letters.peel(s);
                facts[Law.MANY]--;
                fallen++;
                return;
            }
            int grains = rules.worth(Law.PULL, facts);
            acrossSum += grains * republic.across(s, letters.placeOf(l));
            alongSum += grains * republic.along(s, letters.placeOf(l));
            // h is asked with x and p, ahead of the step, though it counts behind it
            if (within(s, 0, STAMPS - 1)) {
                moreUsed[s] = rules.worth(Law.USE, facts);
            }
        }

        private int step(Letters letters, int l) {
            int way = letters.isWalled(l) ? 0 : wayOfPulls(acrossSum, alongSum, letters.pasteOf(l));
            if (way == 0) {
                return 0;
            }
            int to = stepFrom(letters.placeOf(l), way);
            if (!isPlace(to) || republic.isWall(to)) {
                letters.wallIn(l);
                return 0;
            }
            letters.go(l, to);
            return 1;
        }
    }

    /** One to nine STAMPS that are asked what some of them would do by PLAIN PULLS. */
    private static final class Crew {
        static final int MOST = 9;

        private final Republic republic;
        private final int[] members = new int[MOST];
        private int size = 0;
        private int acrossSum = 0;
        private int alongSum = 0;

        Crew(Republic republic) {
            this.republic = republic;
        }

        /** False if one of them is no STAMP, or its MINT is not told. */
        boolean gather(Tape tape, int n) {
            size = 0;
            for (int i = 0; i < n && i < MOST; i++) {
                int s = tape.at(i);
                if (!republic.isPulling(s)) {
                    return false;
                }
                members[i] = s;
                size++;
            }
            return true;
        }

        private void pullTogether(int bits, int place) {
            acrossSum = 0;
            alongSum = 0;
            for (int i = 0; i < size && i < MOST; i++) {
                if ((bits >> i & 1) == 1) {
                    int s = members[i];
                    acrossSum += republic.grainsOf(s) * republic.across(s, place);
                    alongSum += republic.grainsOf(s) * republic.along(s, place);
                }
            }
        }

        private int wayFrom(int bits, int place) {
            pullTogether(bits, place);
            return wayOfPulls(acrossSum, alongSum, 0);
        }

        /** Where some of them bring a LETTER, NONE if into a WALL. */
        private int placeBehind(int bits, int from, int days) {
            int place = from;
            for (int day = 0; day < days; day++) {
                int way = wayFrom(bits, place);
                if (way == 0) {
                    return place;
                }
                place = stepFrom(place, way);
                if (!isPlace(place) || republic.isWall(place)) {
                    return NONE;
                }
            }
            return place;
        }

        /** Of bits that are told upwards the first with the fewest is the least. */
        private static int fewer(int best, int bits) {
            return best == NOTHING || Integer.bitCount(bits) < Integer.bitCount(best) ? bits : best;
        }

        int fewestToBring(int from, int to, int days) {
            int best = NOTHING;
            for (int bits = 0; bits < 1 << size; bits++) {
                if (placeBehind(bits, from, days) == to) {
                    best = fewer(best, bits);
                }
            }
            return best;
        }

        private boolean hangs(int bits, int place) {
            pullTogether(bits, place);
            return acrossSum == 0 && alongSum == 0;
        }

        int waysToHang(int place) {
            int ways = 0;
            for (int bits = 1; bits < 1 << size; bits++) {
                ways += hangs(bits, place) ? 1 : 0;
            }
            return ways;
        }

        int fewestToHang(int place) {
            int best = NOTHING;
            for (int bits = 1; bits < 1 << size; bits++) {
                if (hangs(bits, place)) {
                    best = fewer(best, bits);
                }
            }
            return best;
        }

        /** STAMPS told FALSE pull nothing anyway, so the fewest never name one. */
        int fewestFalse(int place, int way) {
            int all = (1 << size) - 1;
            int best = NOTHING;
            for (int bits = 0; bits <= all; bits++) {
                if (wayFrom(all & ~bits, place) == way) {
                    best = fewer(best, bits);
                }
            }
            return best;
        }
    }

    /** Ships, mules, marks and exchanges: riddles told by the tape alone. */
    private static final class Riddles {
        static final int MOST_VALUE = 600;
        static final int COLLECTORS = 6;

        private static final int CANT_BE_FRANKED = -3;
        private static final int TOO_MANY = 1000;

        private final Tape tape;
        private final int[] fewest = new int[MOST_VALUE + 1];
        private final int[] got = new int[COLLECTORS];
        private int bits = 0;
        private int grains = 0;

        Riddles(Tape tape) {
            this.tape = tape;
        }

        int bits() {
            return bits;
        }

        int grains() {
            return grains;
        }

        private int weightOf(int some, int n) {
            int sum = 0;
            for (int i = 0; i < n; i++) {
                sum += (some >> i & 1) * tape.at(i);
            }
            return sum;
        }

        void loadShip(int n) {
            int all = weightOf((1 << n) - 1, n);
            grains = all;
            bits = (1 << n) - 1;
            for (int left = 1; left < 1 << n; left += 2) {
                int lists = Math.abs(2 * weightOf(left, n) - all);
                if (lists < grains || lists == grains && left < bits) {
                    grains = lists;
                    bits = left;
                }
            }
        }

        boolean loadMule(int n, int much) {
            bits = NONE;
            for (int some = 0; some < 1 << n; some++) {
                int sum = weightOf(some, n);
                if (sum >= much && (bits == NONE || isBetterLoad(some, sum))) {
                    bits = some;
                    grains = sum;
                }
            }
            return bits != NONE;
        }

        private boolean isBetterLoad(int some, int sum) {
            int fewer = Integer.bitCount(bits) - Integer.bitCount(some);
            return fewer > 0 || fewer == 0 && sum < grains;
        }

        /** The fewest stamps for each value; false if one of the stamps has no such value. */
        boolean reckonStamps(int n) {
            for (int i = 0; i < n; i++) {
                if (!within(tape.at(i), 1, 100)) {
                    return false;
                }
            }
            for (int value = 1; value <= MOST_VALUE; value++) {
                int best = TOO_MANY;
                for (int i = 0; i < n; i++) {
                    int rest = value - tape.at(i);
                    if (within(rest, 0, value - 1)) {
                        best = Math.min(best, fewest[rest] + 1);
                    }
                }
                fewest[value] = best;
            }
            return true;
        }

        int frankedUpTo(int most) {
            for (int value = 1; value <= MOST_VALUE; value++) {
                if (fewest[value] > most) {
                    return value - 1;
                }
            }
            return MOST_VALUE;
        }

        int stampsFor(int value) {
            boolean can = within(value, 0, MOST_VALUE) && fewest[value] < TOO_MANY;
            return can ? fewest[value] : CANT_BE_FRANKED;
        }

        boolean exchangeStamps(int n) {
            if (!rowsNameEachOnce(n)) {
                return false;
            }
            int left = (1 << n) - 1;
            for (int round = 0; round < n && left != 0; round++) {
                left &= ~changeInRing(left, n);
            }
            return true;
        }

        private boolean rowsNameEachOnce(int n) {
            for (int row = 0; row < n; row++) {
                int named = 0;
                for (int i = 0; i < n; i++) {
                    int who = tape.at(row * n + i);
                    named |= within(who, 0, n - 1) ? 1 << who : 0;
                }
                if (named != (1 << n) - 1) {
                    return false;
                }
            }
            return true;
        }

        /** Bits of those in the ring to which the lowest one left points in the end. */
        private int changeInRing(int left, int n) {
            int who = Integer.numberOfTrailingZeros(left);
            for (int i = 0; i < n; i++) {
                who = likedMost(who, left, n);
            }
            int ring = 0;
            for (int i = 0; i < n && (ring >> who & 1) == 0; i++) {
                int liked = likedMost(who, left, n);
                if (within(who, 0, COLLECTORS - 1)) {
                    got[who] = liked;
                }
                ring |= 1 << who;
                who = liked;
            }
            return ring;
        }

        private int likedMost(int who, int left, int n) {
            for (int i = 0; i < n; i++) {
                int liked = tape.at(who * n + i);
                if (within(liked, 0, n - 1) && (left >> liked & 1) == 1) {
                    return liked;
                }
            }
            return who;
        }

        int stampGotBy(int who) {
            return within(who, 0, COLLECTORS - 1) ? got[who] : NOTHING;
        }
    }

    /** Reads a TEXT from the tape's beginning up to its end or its first FAULT. */
    private abstract static class Reader {
        static final int CANT_STAND = 1;
        static final int TOO_LONG = 2;
        static final int BEYOND = 3;
        static final int TOO_MANY = 4;
        static final int TOO_DEEP = 5;
        static final int TOO_MANY_STAMPS = 6;
        static final int NOT_TOLD = 7;

        private final int[] text;
        private int end = 0;
        private int at = 0;
        private int ahead = NONE;
        private int fault = 0;

        Reader(Tape tape) {
            text = tape.bytes;
        }

        void begin(int n) {
            end = n;
            at = NONE;
            fault = 0;
            skip();
        }

        void skip() {
            at++;
            ahead = at >= 0 && at < end && at < text.length ? text[at] : NONE;
        }

        int at() {
            return at;
        }

        /** The sign that comes, NONE at the end. */
        int ahead() {
            return ahead;
        }

        boolean ended() {
            return at >= end;
        }

        int fault() {
            return fault;
        }

        /** Always false, so that a reader can say it and go. */
        boolean fails(int number, int place) {
            fault = -1000 * number - place;
            return false;
        }

        boolean reads(int sign) {
            if (ahead != sign) {
                return fails(CANT_STAND, at);
            }
            skip();
            return true;
        }

        /** A number with so many digits at most; beyond its bound that FAULT, at its first digit; NONE with a FAULT. */
        int readNumber(int digits, int most, int faultBeyond) {
            int first = at;
            int number = 0;
            for (int i = 0; i < digits && within(ahead, '0', '9'); i++) {
                number = 10 * number + ahead - '0';
                skip();
            }
            if (at == first) {
                fails(CANT_STAND, at);
                return NONE;
            }
            if (within(ahead, '0', '9')) {
                fails(TOO_LONG, at);
                return NONE;
            }
            if (number > most) {
                fails(faultBeyond, first);
                return NONE;
            }
            return number;
        }
    }

    /** Reads A SHEET into rows of its own, so that a FAULT leaves the one in use as it is. */
    private static final class SheetReader extends Reader {
        private static final int MOST_BYTES = 60;
        private static final int MOST_OPEN = 2;

        private final int[] mint = new int[STAMPS];
        private final int[] grains = new int[STAMPS];
        private int size = 0;

        SheetReader(Tape tape) {
            super(tape);
        }

        int read(int n) {
            begin(n);
            size = 0;
            return readStamps(0) ? size : fault();
        }

        void printInto(Republic republic) {
            republic.clearStamps();
            for (int s = 0; s < size && s < STAMPS; s++) {
                republic.print(mint[s], grains[s]);
            }
        }

        private boolean readStamps(int open) {
            for (int i = 0; i <= MOST_BYTES; i++) {
                if (!readOne(open)) {
                    return false;
                }
                if (open == 0 ? ended() : ahead() == ')') {
                    return true;
                }
            }
            return fails(CANT_STAND, at());
        }

        private boolean readOne(int open) {
            int start = at();
            int times = 1;
            if (within(ahead(), '2', '9')) {
                times = ahead() - '0';
                skip();
            }
            return ahead() == '(' ? readRound(open, start, times) : readStamp(start, times);
        }

        private boolean readStamp(int start, int times) {
            if (!within(ahead(), 'a', 'h')) {
                return fails(CANT_STAND, at());
            }
            int m = ahead() - 'a';
            skip();
            int grain = 2;
            if (ahead() == 't' || ahead() == 'f') {
                grain = ahead() == 't' ? 1 : 0;
                skip();
            }
            if (size + times > STAMPS) {
                return fails(TOO_MANY_STAMPS, start);
            }
            for (int i = 0; i < times; i++) {
                add(m, grain);
            }
            return true;
        }

        private boolean readRound(int open, int start, int times) {
            if (open >= MOST_OPEN) {
                return fails(TOO_DEEP, at());
            }
            skip();
            int first = size;
            if (!readStamps(open + 1)) {
                return false;
            }
            skip();
            int more = (size - first) * (times - 1);
            if (size + more > STAMPS) {
                return fails(TOO_MANY_STAMPS, start);
            }
            // what has just been added is copied on in turn, so one row of copies is enough
            for (int i = first; i < first + more && i < size; i++) {
                add(mint[i], grains[i]);
            }
            return true;
        }

        private void add(int m, int grain) {
            if (size < STAMPS) {
                mint[size] = m;
                grains[size] = grain;
                size++;
            }
        }
    }

    /** Reads A POST into rows and carries them out later, as nothing is done by one with a FAULT. */
    private static final class PostReader extends Reader {
        private static final int MOST_LINES = 20;
        private static final int DIGITS = 2;
        private static final int MOST_PASTE = 99;

        private final int[] sign = new int[MOST_LINES];
        private final int[] letter = new int[MOST_LINES];
        private final int[] number = new int[MOST_LINES];
        private int lines = 0;
        private int told = 0;
        private int stamps = 0;

        PostReader(Tape tape) {
            super(tape);
        }

        int read(int n, int toldLetters, int manyStamps) {
            begin(n);
            lines = 0;
            told = toldLetters;
            stamps = manyStamps;
            for (int i = 0; i <= MOST_LINES; i++) {
                if (!readLine()) {
                    return fault();
                }
                if (ended()) {
                    return lines;
                }
                if (!reads(';')) {
                    return fault();
                }
            }
            return fault();
        }

        private boolean readLine() {
            boolean wall = ahead() == '#';
            if (!wall && !within(ahead(), '0', '7')) {
                return fails(CANT_STAND, at());
            }
            if (lines >= MOST_LINES) {
                return fails(TOO_MANY, at());
            }
            int start = at();
            int l = wall ? 0 : ahead() - '0';
            skip();
            return wall ? add('#', l, readPlace()) : readOrder(l, start);
        }

        private boolean readOrder(int l, int start) {
            int order = ahead();
            if (order != '@' && order != '+' && order != '-' && order != '=') {
                return fails(CANT_STAND, at());
            }
            skip();
            if (order == '@') {
                told |= 1 << l;
                return add(order, l, readPlace());
            }
            if ((told >> l & 1) == 0) {
                return fails(NOT_TOLD, start);
            }
            int most = order == '=' ? MOST_PASTE : stamps - 1;
            return add(order, l, readNumber(DIGITS, most, NOT_TOLD));
        }

        private int readPlace() {
            int x = readNumber(DIGITS, WIDE - 1, BEYOND);
            if (x == NONE || !reads(',')) {
                return NONE;
            }
            int y = readNumber(DIGITS, HIGH - 1, BEYOND);
            return y == NONE ? NONE : WIDE * y + x;
        }

        /** False if its number could not be read. */
        private boolean add(int order, int l, int value) {
            if (value == NONE || lines >= MOST_LINES) {
                return false;
            }
            sign[lines] = order;
            letter[lines] = l;
            number[lines] = value;
            lines++;
            return true;
        }

        void carryOut(Letters letters, Republic republic) {
            for (int i = 0; i < lines && i < MOST_LINES; i++) {
                if (sign[i] == '#') {
                    republic.turnWall(number[i]);
                } else {
                    carryOutOrder(letters, sign[i], letter[i], number[i]);
                }
            }
        }

        private static void carryOutOrder(Letters letters, int order, int l, int value) {
            switch (order) {
                case '@':
                    letters.lay(l, value);
                    break;
                case '+':
                    letters.stick(value, l);
                    break;
                case '-':
                    if (letters.isOn(value, l)) {
                        letters.peel(value);
                    }
                    break;
                default:
                    letters.putPaste(l, value);
                    break;
            }
        }
    }

    /** Reads THE LAW and writes it as steps for a machine with a stack. */
    private static final class LawReader extends Reader {
        private static final int MOST_OPEN = 6;
        private static final int MOST_BYTES = 240;
        private static final int DIGITS = 5;
        private static final int MOST_NUMBER = 99999;
        private static final String FACT_LETTERS = "smgudnltw";

        private Law into;

        LawReader(Tape tape, Law first) {
            super(tape);
            into = first;
        }

        int read(int n, Law target) {
            begin(n);
            into = target;
            into.clear();
            for (int i = 0; i <= Law.MOST_RULES; i++) {
                if (!readRule()) {
                    return fault();
                }
                if (ended()) {
                    return into.size();
                }
                if (!reads(';')) {
                    return fault();
                }
            }
            return fault();
        }

        private boolean readRule() {
            int kind = ahead();
            if (kind != Law.PULL && kind != Law.USE && kind != Law.FALL) {
                return fails(CANT_STAND, at());
            }
            if (into.size() >= Law.MOST_RULES) {
                return fails(TOO_MANY, at());
            }
            skip();
            into.beginRule(kind);
            if (kind != Law.FALL && !readSum(0)) {
                return false;
            }
            into.write(Law.STOP, 0);
            into.beginTest();
            if (!reads('(') || !readAny(1) || !reads(')')) {
                return false;
            }
            into.write(Law.STOP, 0);
            return true;
        }

        /** C: PARTS of which one must hold. */
        private boolean readAny(int open) {
            if (!readAll(open)) {
                return false;
            }
            for (int i = 0; i < MOST_BYTES && ahead() == '|'; i++) {
                skip();
                int jump = into.write(Law.IF_SO_GO, 0);
                if (!readAll(open)) {
                    return false;
                }
                into.landHere(jump);
            }
            return true;
        }

        /** A PART: TESTS that must all hold. */
        private boolean readAll(int open) {
            if (!readTest(open)) {
                return false;
            }
            for (int i = 0; i < MOST_BYTES && ahead() == '&'; i++) {
                skip();
                int jump = into.write(Law.IF_NOT_GO, 0);
                if (!readTest(open)) {
                    return false;
                }
                into.landHere(jump);
            }
            return true;
        }

        private boolean readTest(int open) {
            int sign = ahead();
            if (sign != '!' && sign != '(') {
                return readComparison(open);
            }
            if (open >= MOST_OPEN) {
                return fails(TOO_DEEP, at());
            }
            skip();
            if (sign == '(') {
                return readAny(open + 1) && reads(')');
            }
            if (!readTest(open + 1)) {
                return false;
            }
            into.write('!', 0);
            return true;
        }

        private boolean readComparison(int open) {
            if (!readSum(open)) {
                return false;
            }
            int sign = ahead();
            if (sign != '<' && sign != '>' && sign != '=') {
                return fails(CANT_STAND, at());
            }
            skip();
            if (!readSum(open)) {
                return false;
            }
            into.write(sign, 0);
            return true;
        }

        /** E: TERMS with + or - between two. */
        private boolean readSum(int open) {
            if (!readTerm(open)) {
                return false;
            }
            for (int i = 0; i < MOST_BYTES && (ahead() == '+' || ahead() == '-'); i++) {
                int sign = ahead();
                skip();
                if (!readTerm(open)) {
                    return false;
                }
                into.write(sign, 0);
            }
            return true;
        }

        /** A TERM: FACTORS with one of * / % between two. */
        private boolean readTerm(int open) {
            if (!readFactor(open)) {
                return false;
            }
            for (int i = 0; i < MOST_BYTES && (ahead() == '*' || ahead() == '/' || ahead() == '%'); i++) {
                int sign = ahead();
                skip();
                if (!readFactor(open)) {
                    return false;
                }
                into.write(sign, 0);
            }
            return true;
        }

        private boolean readFactor(int open) {
            if (ahead() == '[') {
                if (open >= MOST_OPEN) {
                    return fails(TOO_DEEP, at());
                }
                skip();
                return readSum(open + 1) && reads(']');
            }
            int fact = within(ahead(), 'a', 'z') ? FACT_LETTERS.indexOf((char) ahead()) : NONE;
            if (fact >= 0) {
                skip();
                into.write(Law.PUSH_FACT, fact);
                return true;
            }
            int number = readNumber(DIGITS, MOST_NUMBER, TOO_LONG);
            into.write(Law.PUSH, number);
            return number != NONE;
        }
    }

    /** THE LAW: RULES as steps, each with one number beside it. */
    private static final class Law {
        static final int MOST_RULES = 16;
        static final int PULL = 'p';
        static final int USE = 'h';
        static final int FALL = 'x';

        // in the order of the letters by which THE LAW names them
        static final int STAMP = 0;
        static final int MINT = 1;
        static final int GRAINS = 2;
        static final int USED = 3;
        static final int STEPS = 4;
        static final int MANY = 5;
        static final int LETTER = 6;
        static final int DAY = 7;
        static final int DRAWN = 8;
        static final int FACTS = 9;

        // other steps are written as their sign
        static final int STOP = 0;
        static final int PUSH = 1;
        static final int PUSH_FACT = 2;
        static final int IF_SO_GO = 3;
        static final int IF_NOT_GO = 4;

        private static final int MOST_WORTH = 99;
        // a byte of the TEXT writes one step at most, a RULE two more
        private static final int MOST_STEPS = 280;
        // three numbers at most wait at each of six open brackets and outside of them
        private static final int MOST_WAITING = 24;

        private final int[] kind = new int[MOST_RULES];
        private final int[] worthAt = new int[MOST_RULES];
        private final int[] testAt = new int[MOST_RULES];
        private final int[] step = new int[MOST_STEPS];
        private final int[] beside = new int[MOST_STEPS];
        private final int[] stack = new int[MOST_WAITING];
        private int rules = 0;
        private int steps = 0;
        private int waiting = 0;
        private boolean refused = false;

        int size() {
            return rules;
        }

        void clear() {
            rules = 0;
            steps = 0;
        }

        void beginRule(int what) {
            if (rules < MOST_RULES) {
                kind[rules] = what;
                worthAt[rules] = steps;
                testAt[rules] = steps;
                rules++;
            }
        }

        void beginTest() {
            if (within(rules, 1, MOST_RULES)) {
                testAt[rules - 1] = steps;
            }
        }

        /** Where the step stands. */
        int write(int what, int number) {
            int at = steps;
            if (at < MOST_STEPS) {
                step[at] = what;
                beside[at] = number;
                steps++;
            }
            return at;
        }

        void landHere(int jump) {
            if (within(jump, 0, MOST_STEPS - 1)) {
                beside[jump] = steps;
            }
        }

        boolean letsFall(int[] facts) {
            for (int i = 0; i < rules && i < MOST_RULES; i++) {
                if (kind[i] == FALL && reckon(testAt[i], facts) != 0) {
                    return true;
                }
            }
            return false;
        }

        /** The E of the first RULE of that kind whose C holds. */
        int worth(int what, int[] facts) {
            for (int i = 0; i < rules && i < MOST_RULES; i++) {
                if (kind[i] == what && reckon(testAt[i], facts) != 0) {
                    return Math.max(0, Math.min(MOST_WORTH, reckon(worthAt[i], facts)));
                }
            }
            return 0;
        }

        /** What the steps up to the next STOP come to; 0 if REFUSED, which is no for a C. */
        private int reckon(int from, int[] facts) {
            waiting = 0;
            refused = false;
            int at = from;
            // jumps go forward alone, so no step is done twice
            for (int i = 0; i < MOST_STEPS && within(at, 0, MOST_STEPS - 1) && step[at] != STOP; i++) {
                at = doStep(at, facts);
                if (refused) {
                    return 0;
                }
            }
            return pop();
        }

        /** Which step comes next. */
        private int doStep(int at, int[] facts) {
            if (!within(at, 0, MOST_STEPS - 1)) {
                return at;
            }
            int number = beside[at];
            int what = step[at];
            int top = what == PUSH || what == PUSH_FACT ? 0 : pop();
            if (what == PUSH) {
                push(number);
            } else if (what == PUSH_FACT) {
                push(within(number, 0, facts.length - 1) ? facts[number] : 0);
            } else if (what == '!') {
                push(top == 0 ? 1 : 0);
            } else if (what != IF_SO_GO && what != IF_NOT_GO) {
                push(joined(what, pop(), top));
            } else if (top != 0 == (what == IF_SO_GO)) {
                // what decides stays for whoever asked
                push(top);
                return number;
            }
            return at + 1;
        }

        private int joined(int sign, int left, int right) {
            switch (sign) {
                case '+':
                    return left + right;
                case '-':
                    return left - right;
                case '*':
                    return left * right;
                case '<':
                    return left < right ? 1 : 0;
                case '>':
                    return left > right ? 1 : 0;
                case '=':
                    return left == right ? 1 : 0;
                default:
                    refused = right == 0;
                    return refused ? 0 : sign == '/' ? left / right : left % right;
            }
        }

        private void push(int value) {
            if (waiting < MOST_WAITING) {
                stack[waiting] = value;
                waiting++;
            }
        }

        private int pop() {
            if (waiting < 1 || waiting > MOST_WAITING) {
                return 0;
            }
            waiting--;
            return stack[waiting];
        }
    }
}
