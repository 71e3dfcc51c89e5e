import java.util.Arrays;

/** A court in which rank is a matter of writing; what each call promises stands in the document. */
public final class CourtHand {
    public static final int NONE = -1;

    private static final int LETTERS = 8;
    private static final int COURTIERS = 10;
    private static final int AGE_MOST = 99;
    private static final int INK_MOST = 9999;
    private static final int MOON_MOST = 9999;
    private static final int MOONS_A_CALL = 60;
    private static final int SEED_MOST = 65535;
    private static final int LAW_BYTES = 240;
    private static final int ORDER_BYTES = 60;
    private static final int ORDER_LETTERS = 60;
    private static final int BLOTS_BYTES = 120;
    private static final int COPIES_MOST = 12;
    private static final int ALIKE_MOST = 200;

    /** What a call with fitting arguments answers where the thing asked for is not to be had. */
    private static final int NOT_SO = -2;
    private static final int NO_GRID = -3;
    private static final int NO_PLACE = -4;

    private static final int FAULT_SIGN = 1;
    private static final int FAULT_DIGIT = 2;
    private static final int FAULT_MANY = 4;
    private static final int FAULT_DEEP = 5;
    private static final int FAULT_LONG = 6;
    private static final int FAULT_UNKNOWN = 7;

    private final Models models;
    private final Court court;
    private final Court kept;
    private final Court trial;
    private final Tape tape;
    private final Order sheet;
    private final LawReader reader;
    private final int[] near;
    private final int[] copy;
    private Law ruling;
    private boolean isKept;

    public CourtHand() {
        models = new Models();
        court = new Court(models);
        kept = new Court(models);
        trial = new Court(models);
        tape = new Tape();
        sheet = new Order();
        reader = new LawReader(tape);
        near = new int[COURTIERS];
        copy = new int[ORDER_LETTERS];
        ruling = new Law();
        isKept = false;
    }

    public boolean model(int k, int grid) {
        if (k < 0 || k >= LETTERS || !Grids.fits(grid)) {
            return false;
        }
        models.tell(k, grid);
        return true;
    }

    public boolean courtier(int c, int age, int ink) {
        if (c < 0 || c >= COURTIERS || age < 0 || age > AGE_MOST || ink < 0 || ink > INK_MOST) {
            return false;
        }
        court.tell(c, age, ink);
        return true;
    }

    public boolean form(int c, int k, int grid) {
        if (!court.has(c) || !models.has(k) || !Grids.fits(grid)) {
            return false;
        }
        court.setForm(c, k, grid);
        return true;
    }

    public int feed(int a, int b, int c, int d, int e) {
        if (!tape.hasRoom()) {
            return NONE;
        }
        tape.addInt(a);
        tape.addInt(b);
        tape.addInt(c);
        tape.addInt(d);
        tape.addInt(e);
        return tape.length;
    }

    public int law(int n) {
        if (!tape.has(n, 1, LAW_BYTES)) {
            return NONE;
        }
        int answer = reader.readLaw(n);
        tape.length = 0;
        if (answer > 0) {
            ruling = reader.handOver(ruling);
        }
        return answer;
    }

    public int order(int n) {
        if (!tape.has(n, 1, ORDER_BYTES)) {
            return NONE;
        }
        int answer = sheet.readOrder(tape, n);
        tape.length = 0;
        return answer;
    }

    public int blots(int n) {
        if (!tape.has(n, 1, BLOTS_BYTES)) {
            return NONE;
        }
        // The lines are done to a copy, so that a fault further on leaves the court as it was.
        trial.copyFrom(court);
        int answer = Blots.doLines(tape, n, trial);
        tape.length = 0;
        if (answer > 0) {
            court.copyFrom(trial);
        }
        return answer;
    }

    public int moons(int n) {
        if (n < 1 || n > MOONS_A_CALL) {
            return NONE;
        }
        court.passMoons(n, ruling);
        return court.mended;
    }

    public int tried(int n, int what) {
        if (n < 1 || n > MOONS_A_CALL || !canBeTried(what)) {
            return NONE;
        }
        trial.copyFrom(court);
        trial.passMoons(n, ruling);
        switch (what) {
            case 0:
                return trial.mended;
            case 1:
                return trial.spoiled;
            case 2:
                return trial.used;
            case 3:
                return trial.firstInRank();
            default:
                return triedOfOne(what / 10, what % 10);
        }
    }

    private boolean canBeTried(int what) {
        return what >= 0 && what <= 3 || what >= 10 && what < 40 && court.has(what % 10);
    }

    private int triedOfOne(int what, int c) {
        if (what == 1) {
            return trial.faultsOf(c);
        }
        if (what == 2) {
            trial.rankAll();
            return trial.ranks[c];
        }
        return trial.ink[c];
    }

    public int courtierIs(int c, int what) {
        if (!court.has(c)) {
            return NONE;
        }
        switch (what) {
            case 0:
                return court.age[c];
            case 1:
                return court.ink[c];
            case 2:
                return court.faultsOf(c);
            case 3:
                court.rankAll();
                return court.ranks[c];
            case 4:
                return formsRead(c, true);
            case 5:
                return formsRead(c, false);
            default:
                return NONE;
        }
    }

    /** How many of one's forms are read as they are meant, or else how many can't be read. */
    private int formsRead(int c, boolean asMeant) {
        int found = 0;
        for (int k = 0; k < LETTERS; k++) {
            if (models.has(k) && models.nearest(court.formAt(c, k)) == (asMeant ? k : NOT_SO)) {
                found++;
            }
        }
        return found;
    }

    public int formOf(int c, int k) {
        return court.has(c) && models.has(k) ? court.formAt(c, k) : NONE;
    }

    public int modelOf(int k) {
        return models.has(k) ? models.grids[k] : NONE;
    }

    public int read(int grid) {
        return Grids.fits(grid) ? models.nearest(grid) : NONE;
    }

    public int apart(int grid, int other) {
        return Grids.fits(grid) && Grids.fits(other) ? Grids.gap(grid, other) : NONE;
    }

    public int written(int c, int what) {
        if (!court.has(c) || what < 0 || what > 4) {
            return NONE;
        }
        if (what == 4) {
            return inkLastsFor(c);
        }
        int sum = 0;
        for (int i = 0; i < sheet.length; i++) {
            int k = sheet.letters[i];
            if (models.has(k)) {
                sum += writtenLetter(k, court.formAt(c, k), what);
            }
        }
        return sum;
    }

    /** What one letter, written as that grid, adds to what is asked of the order (0 to 3). */
    private int writtenLetter(int k, int grid, int what) {
        if (what == 3) {
            return Integer.bitCount(grid);
        }
        int as = models.nearest(grid);
        int kind = as == k ? 0 : as == NOT_SO ? 2 : 1;
        return kind == what ? 1 : 0;
    }

    private int inkLastsFor(int c) {
        int left = court.ink[c];
        for (int i = 0; i < sheet.length; i++) {
            int k = sheet.letters[i];
            if (!models.has(k)) {
                return i;
            }
            left -= Integer.bitCount(court.formAt(c, k));
            if (left < 0) {
                return i;
            }
        }
        return sheet.length;
    }

    public int copied(int n, int what) {
        boolean asked = what == 100 || what == 101 || what >= 0 && what < ORDER_LETTERS;
        if (!asked || !tape.has(n, 1, COPIES_MOST)) {
            return NONE;
        }
        tape.length = 0;
        for (int i = 0; i < n; i++) {
            if (!court.has(tape.byteAt(i))) {
                return NOT_SO;
            }
        }
        int left = copyAlong(n);
        if (what == 100) {
            return left;
        }
        if (what == 101) {
            return placesAsTheyWere(left);
        }
        return what < left ? copy[what] : NO_PLACE;
    }

    /** Leaves in copy what the last of the n told courtiers on the tape makes of the order: how many letters. */
    private int copyAlong(int n) {
        int left = sheet.length;
        System.arraycopy(sheet.letters, 0, copy, 0, left);
        for (int i = 0; i < n; i++) {
            int c = tape.byteAt(i);
            int next = 0;
            for (int at = 0; at < left; at++) {
                int k = copy[at];
                int as = models.has(k) ? models.nearest(court.formAt(c, k)) : NOT_SO;
                if (as != NOT_SO) {
                    copy[next] = as;
                    next++;
                }
            }
            left = next;
        }
        return left;
    }

    private int placesAsTheyWere(int left) {
        int found = 0;
        for (int at = 0; at < left; at++) {
            if (copy[at] == sheet.letters[at]) {
                found++;
            }
        }
        return found;
    }

    public int another(int grid, int k, int what) {
        if (!Grids.fits(grid) || !models.has(k) || what < 0 || what > 1) {
            return NONE;
        }
        int dots = fewestDots(grid, k);
        return dots == NOT_SO || what == 1 ? dots : Integer.bitCount(dots);
    }

    private int fewestDots(int grid, int k) {
        int behind = models.behind(grid, k);
        if (behind < 0) {
            return 0;
        }
        // A dot brings one model nearer and another one farther by one each, so fewer can't do.
        for (int many = behind / 2 + 1; many <= 3; many++) {
            int dots = leastDots(grid, k, many);
            if (dots != NOT_SO) {
                return dots;
            }
        }
        return NOT_SO;
    }

    /** The least bits of so many dots (1 to 3): with the highest dot outermost, all come in rising order. */
    private int leastDots(int grid, int k, int many) {
        for (int high = many - 1; high < Grids.DOTS; high++) {
            int middles = many > 1 ? high : 1;
            for (int middle = 0; middle < middles; middle++) {
                int lows = many > 2 ? middle : 1;
                for (int low = 0; low < lows; low++) {
                    int dots = 1 << high;
                    dots |= many > 1 ? 1 << middle : 0;
                    dots |= many > 2 ? 1 << low : 0;
                    if (models.nearest(grid ^ dots) == k) {
                        return dots;
                    }
                }
            }
        }
        return NOT_SO;
    }

    public int whose(int letters, int what) {
        boolean asked = what >= 0 && what <= 2 && letters > 0 && (letters & ~models.told) == 0;
        int many = Integer.bitCount(letters);
        if (!asked || !tape.has(4 * many, 4, 4 * LETTERS)) {
            return NONE;
        }
        tape.length = 0;
        if (court.told == 0) {
            return NOT_SO;
        }
        for (int i = 0; i < many; i++) {
            if (!Grids.fits(tape.intAt(4 * i))) {
                return NO_GRID;
            }
        }
        return nearestHand(letters, what);
    }

    private int nearestHand(int letters, int what) {
        int who = NONE;
        int least = Integer.MAX_VALUE;
        int next = Integer.MAX_VALUE;
        for (int c = 0; c < COURTIERS; c++) {
            if (court.has(c)) {
                int far = farFromSheet(c, letters);
                if (far < least) {
                    next = least;
                    least = far;
                    who = c;
                } else if (far < next) {
                    next = far;
                }
            }
        }
        if (what == 0) {
            return who;
        }
        if (what == 1) {
            return least;
        }
        return next == Integer.MAX_VALUE ? NOT_SO : next - least;
    }

    private int farFromSheet(int c, int letters) {
        int far = 0;
        int at = 0;
        for (int k = 0; k < LETTERS; k++) {
            if ((letters >> k & 1) == 1) {
                far += Grids.gap(court.formAt(c, k), tape.intAt(at));
                at += 4;
            }
        }
        return far;
    }

    public int forge(int c, int of) {
        return court.has(c) && court.has(of) && c != of ? court.handsApart(c, of) : NONE;
    }

    public int alike(int dots, int what) {
        if (dots < 0 || dots > ALIKE_MOST || what != 100 && !court.has(what)) {
            return NONE;
        }
        markNear(dots);
        return what == 100 ? groups() : groupOf(what);
    }

    private void markNear(int dots) {
        for (int c = 0; c < COURTIERS; c++) {
            near[c] = 0;
            for (int d = 0; d < COURTIERS; d++) {
                if (court.has(c) && court.has(d) && court.handsApart(c, d) <= dots) {
                    near[c] |= 1 << d;
                }
            }
        }
    }

    private int groups() {
        int found = 0;
        int seen = 0;
        for (int c = 0; c < COURTIERS; c++) {
            if (court.has(c) && (seen >> c & 1) == 0) {
                found++;
                seen |= groupOf(c);
            }
        }
        return found;
    }

    private int groupOf(int c) {
        int group = 1 << c;
        for (int round = 0; round < COURTIERS; round++) {
            for (int d = 0; d < COURTIERS; d++) {
                if ((group >> d & 1) == 1) {
                    group |= near[d];
                }
            }
        }
        return group;
    }

    public int rises(int n, int what) {
        if (n < 1 || n > MOONS_A_CALL || what < 0 || what > 1) {
            return NONE;
        }
        trial.copyFrom(court);
        trial.passMoons(n, ruling);
        trial.rankAll();
        court.rankAll();
        int who = NOT_SO;
        int most = 0;
        for (int c = 0; c < COURTIERS; c++) {
            int gain = court.has(c) ? court.ranks[c] - trial.ranks[c] : 0;
            if (gain > most) {
                who = c;
                most = gain;
            }
        }
        return what == 0 ? who : most;
    }

    public int commands() {
        return court.firstInRank();
    }

    public int clear(int c, int what) {
        if (!court.has(c) || what < 0 || what > 2) {
            return NONE;
        }
        int first = NOT_SO;
        int second = NOT_SO;
        int least = Integer.MAX_VALUE;
        for (int k = 0; k < LETTERS; k++) {
            for (int other = k + 1; other < LETTERS; other++) {
                if (models.has(k) && models.has(other)) {
                    int far = Grids.gap(court.formAt(c, k), court.formAt(c, other));
                    if (far < least) {
                        least = far;
                        first = k;
                        second = other;
                    }
                }
            }
        }
        if (what == 0) {
            return first;
        }
        return what == 1 || second == NOT_SO ? second : least;
    }

    public int shape(int grid, int what) {
        if (!Grids.fits(grid)) {
            return NONE;
        }
        switch (what) {
            case 0:
                return Grids.loops(grid);
            case 1:
                return Grids.strokes(grid);
            case 2:
                return Grids.cross(grid);
            case 3:
                return Integer.bitCount(grid);
            case 4:
                return Grids.mirrored(grid);
            case 5:
                return Grids.turned(grid);
            case 6:
                return Grids.penLifts(grid);
            default:
                return NONE;
        }
    }

    public int like(int grid, int other) {
        return Grids.fits(grid) && Grids.fits(other) ? Grids.likeness(grid, other) : NONE;
    }

    public int toldApart(int k, int what) {
        if (k < 2 || k > LETTERS || what < 0 || what > 1) {
            return NONE;
        }
        if (Integer.bitCount(models.told) < k) {
            return NOT_SO;
        }
        int which = NONE;
        int most = NONE;
        for (int bits = 1; bits < 1 << LETTERS; bits++) {
            if ((bits & ~models.told) == 0 && Integer.bitCount(bits) == k) {
                int far = models.leastApart(bits);
                if (far > most) {
                    most = far;
                    which = bits;
                }
            }
        }
        return what == 0 ? most : which;
    }

    public boolean seed(int x) {
        if (x < 0 || x > SEED_MOST) {
            return false;
        }
        court.x = x;
        return true;
    }

    public int keep() {
        kept.copyFrom(court);
        isKept = true;
        return court.moon;
    }

    public boolean undo() {
        if (!isKept) {
            return false;
        }
        court.copyFrom(kept);
        return true;
    }

    public int check(int n) {
        if (!tape.has(n, 0, COURTIERS)) {
            return NOT_SO;
        }
        tape.length = 0;
        for (int c = 0; c < n; c++) {
            int faults = court.has(c) ? court.faultsOf(c) : 0;
            if (tape.byteAt(c) != faults) {
                return c;
            }
        }
        return NONE;
    }

    public int count(int what) {
        switch (what) {
            case 0:
                return court.moon;
            case 1:
                return court.told;
            case 2:
                return models.told;
            case 3:
                return sheet.length;
            case 4:
                return ruling.rules;
            case 5:
                return tape.length;
            case 6:
                return court.x;
            default:
                return what >= 100 && what - 100 < sheet.length ? sheet.letters[what - 100] : NONE;
        }
    }

    private static int fault(int number, int place) {
        return -1000 * number - place;
    }

    /** What can be told of a grid alone; dot (x, y) is bit 5 y + x. */
    private static final class Grids {
        static final int DOTS = 25;
        static final int SIDE = 5;
        static final int ALL = 33554431;
        static final int LEFT_EDGE = 1082401;
        static final int RIGHT_EDGE = LEFT_EDGE << 4;
        static final int EDGE = LEFT_EDGE | RIGHT_EDGE | 31 | 31 << 20;

        private Grids() {
        }

        static boolean fits(int grid) {
            return grid >= 0 && grid <= ALL;
        }

        static int gap(int grid, int other) {
            return Integer.bitCount(grid ^ other);
        }

        static int toLeft(int grid) {
            return (grid & ~LEFT_EDGE) >>> 1;
        }

        static int toRight(int grid) {
            return (grid & ~RIGHT_EDGE) << 1;
        }

        static int toTop(int grid) {
            return grid >>> SIDE;
        }

        static int toBottom(int grid) {
            return grid << SIDE & ALL;
        }

        static int mirrored(int grid) {
            return (grid & LEFT_EDGE) << 4
                    | (grid & LEFT_EDGE << 1) << 2
                    | grid & LEFT_EDGE << 2
                    | (grid & LEFT_EDGE << 3) >>> 2
                    | (grid & RIGHT_EDGE) >>> 4;
        }

        static int turned(int grid) {
            int out = 0;
            for (int y = 0; y < SIDE; y++) {
                for (int x = 0; x < SIDE; x++) {
                    int dot = grid >> SIDE * y + x & 1;
                    out |= dot << SIDE * x + SIDE - 1 - y;
                }
            }
            return out;
        }

        static int likeness(int grid, int other) {
            int shown = grid;
            for (int how = 0; how < 8; how++) {
                if (how == 4) {
                    shown = mirrored(grid);
                }
                if (shown == other) {
                    return how;
                }
                shown = turned(shown);
            }
            return NOT_SO;
        }

        /** The dots of within that hang together with the lowest of them. */
        static int lowestPart(int within, boolean byCorners) {
            int part = within & -within;
            for (int step = 0; step < DOTS; step++) {
                int row = part | toLeft(part) | toRight(part);
                int column = byCorners ? row : part;
                int wider = (row | toTop(column) | toBottom(column)) & within;
                if (wider == part) {
                    return part;
                }
                part = wider;
            }
            return part;
        }

        static int loops(int grid) {
            int found = 0;
            int rest = ALL & ~grid;
            for (int turn = 0; turn < DOTS && rest != 0; turn++) {
                int part = lowestPart(rest, false);
                if ((part & EDGE) == 0) {
                    found++;
                }
                rest &= ~part;
            }
            return found;
        }

        static int strokes(int grid) {
            int found = 0;
            int rest = grid;
            for (int turn = 0; turn < DOTS && rest != 0; turn++) {
                found++;
                rest &= ~lowestPart(rest, true);
            }
            return found;
        }

        static int cross(int grid) {
            int centres = grid;
            int left = grid;
            int right = grid;
            int top = grid;
            int bottom = grid;
            int size = NOT_SO;
            for (int n = 0; n < SIDE && centres != 0; n++) {
                size = n;
                // Where a moved grid is black, the dot n + 1 places off is black.
                left = toLeft(left);
                right = toRight(right);
                top = toTop(top);
                bottom = toBottom(bottom);
                centres &= left & right & top & bottom;
            }
            return size;
        }

        static int penLifts(int grid) {
            // Of four neighbours an odd number is black where the moved grids differ so.
            int odd = grid & (toLeft(grid) ^ toRight(grid) ^ toTop(grid) ^ toBottom(grid));
            int lines = 0;
            int rest = grid;
            for (int turn = 0; turn < DOTS && rest != 0; turn++) {
                int part = lowestPart(rest, false);
                lines += Math.max(1, Integer.bitCount(odd & part) / 2);
                rest &= ~part;
            }
            return Math.max(0, lines - 1);
        }
    }

    /** The bytes that were fed; they stay readable behind an emptied tape till the next are fed. */
    private static final class Tape {
        static final int MOST = 260;
        static final int A_FEED = 20;

        final int[] bytes = new int[MOST];
        int length;

        boolean hasRoom() {
            return length + A_FEED <= MOST;
        }

        void addInt(int value) {
            for (int shift = 24; shift >= 0 && length < MOST; shift -= 8) {
                bytes[length] = value >> shift & 255;
                length++;
            }
        }

        boolean has(int n, int least, int most) {
            return n >= least && n <= most && n <= length;
        }

        int byteAt(int at) {
            return at >= 0 && at < MOST ? bytes[at] : NONE;
        }

        int intAt(int at) {
            int value = 0;
            for (int i = 0; i < 4; i++) {
                value = value << 8 | byteAt(at + i) & 255;
            }
            return value;
        }
    }

    /** The models of the letters. */
    private static final class Models {
        final int[] grids = new int[LETTERS];
        int told;

        boolean has(int k) {
            return k >= 0 && k < LETTERS && (told >> k & 1) == 1;
        }

        void tell(int k, int grid) {
            grids[k] = grid;
            told |= 1 << k;
        }

        int nearest(int grid) {
            int letter = NOT_SO;
            int least = Integer.MAX_VALUE;
            for (int k = 0; k < LETTERS; k++) {
                if ((told >> k & 1) == 1) {
                    int far = Integer.bitCount(grid ^ grids[k]);
                    if (far < least) {
                        least = far;
                        letter = k;
                    } else if (far == least) {
                        letter = NOT_SO;
                    }
                }
            }
            return letter;
        }

        /** How much nearer a grid is to the nearest other model than to that of k (below 0: less near). */
        int behind(int grid, int k) {
            int least = Grids.DOTS + 1;
            for (int other = 0; other < LETTERS; other++) {
                if (other != k && has(other)) {
                    least = Math.min(least, Grids.gap(grid, grids[other]));
                }
            }
            return Grids.gap(grid, grids[k]) - least;
        }

        int leastApart(int bits) {
            int least = Integer.MAX_VALUE;
            for (int k = 0; k < LETTERS; k++) {
                for (int other = k + 1; other < LETTERS; other++) {
                    if ((bits >> k & bits >> other & 1) == 1) {
                        least = Math.min(least, Grids.gap(grids[k], grids[other]));
                    }
                }
            }
            return least;
        }
    }

    /** All that is kept and undone, or tried: courtiers, their own forms, the moon, the drawn number. */
    private static final class Court {
        final Models models;
        final int[] age = new int[COURTIERS];
        final int[] ink = new int[COURTIERS];
        /** A form of one's own, or NONE where it is as the model is. */
        final int[] forms = new int[COURTIERS * LETTERS];
        /** As they were reckoned by rankAll; while a moon passes they follow each form. */
        final int[] faults = new int[COURTIERS];
        final int[] ranks = new int[COURTIERS];
        int told;
        int moon;
        int x = 1;
        /** What came of the moons that passed last. */
        int mended;
        int spoiled;
        int used;

        Court(Models models) {
            this.models = models;
            Arrays.fill(forms, NONE);
        }

        void copyFrom(Court other) {
            System.arraycopy(other.age, 0, age, 0, COURTIERS);
            System.arraycopy(other.ink, 0, ink, 0, COURTIERS);
            System.arraycopy(other.forms, 0, forms, 0, COURTIERS * LETTERS);
            told = other.told;
            moon = other.moon;
            x = other.x;
        }

        boolean has(int c) {
            return c >= 0 && c < COURTIERS && (told >> c & 1) == 1;
        }

        void tell(int c, int years, int dots) {
            told |= 1 << c;
            age[c] = years;
            ink[c] = dots;
            Arrays.fill(forms, c * LETTERS, (c + 1) * LETTERS, NONE);
        }

        void setForm(int c, int k, int grid) {
            forms[c * LETTERS + k] = grid;
        }

        int formAt(int c, int k) {
            int own = forms[c * LETTERS + k];
            return own == NONE ? models.grids[k] : own;
        }

        int faultsOf(int c) {
            int sum = 0;
            for (int k = 0; k < LETTERS; k++) {
                int own = forms[c * LETTERS + k];
                if (own != NONE) {
                    sum += Integer.bitCount(own ^ models.grids[k]);
                }
            }
            return sum;
        }

        int handsApart(int c, int d) {
            int sum = 0;
            for (int k = 0; k < LETTERS; k++) {
                if (models.has(k)) {
                    sum += Grids.gap(formAt(c, k), formAt(d, k));
                }
            }
            return sum;
        }

        void rankAll() {
            for (int c = 0; c < COURTIERS; c++) {
                faults[c] = faultsOf(c);
            }
            for (int c = 0; c < COURTIERS; c++) {
                ranks[c] = 0;
                for (int d = 0; d < COURTIERS; d++) {
                    if (has(d) && isAhead(d, c)) {
                        ranks[c]++;
                    }
                }
            }
        }

        private boolean isAhead(int c, int d) {
            if (faults[c] != faults[d]) {
                return faults[c] < faults[d];
            }
            return age[c] == age[d] ? c < d : age[c] > age[d];
        }

        int firstInRank() {
            rankAll();
            for (int c = 0; c < COURTIERS; c++) {
                if (has(c) && ranks[c] == 0) {
                    return c;
                }
            }
            return NOT_SO;
        }

        void passMoons(int n, Law law) {
            mended = 0;
            spoiled = 0;
            used = 0;
            for (int i = 0; i < n && moon < MOON_MOST; i++) {
                passMoon(law);
            }
        }

        private void passMoon(Law law) {
            rankAll();
            for (int c = 0; c < COURTIERS; c++) {
                if (has(c)) {
                    takeTurn(c, law);
                }
            }
            moon++;
            for (int c = 0; c < COURTIERS && moon % 12 == 0; c++) {
                age[c] = Math.min(AGE_MOST, age[c] + 1);
            }
        }

        private void takeTurn(int c, Law law) {
            law.meet(c, age[c], ranks[c], moon % 12);
            law.see(ink[c], faults[c]);
            law.lookAt(0, 0, 0);
            ink[c] = Math.min(INK_MOST, ink[c] + law.worth('i', Law.INK_BOUND));
            for (int k = 0; k < LETTERS; k++) {
                if (models.has(k)) {
                    practise(c, k, law);
                }
            }
        }

        private void practise(int c, int k, Law law) {
            int grid = formAt(c, k);
            int black = Integer.bitCount(grid);
            law.see(ink[c], faults[c]);
            law.lookAt(k, Integer.bitCount(grid ^ models.grids[k]), black);
            if (ink[c] < black || law.forbids()) {
                return;
            }
            int mends = law.worth('p', Law.TENTHS_BOUND);
            int spoils = law.worth('w', Law.TENTHS_BOUND);
            ink[c] -= black;
            used += black;
            if (draw() < mends) {
                mend(c, k);
            }
            if (draw() < spoils) {
                int tens = draw();
                int dot = (10 * tens + draw()) % Grids.DOTS;
                setForm(c, k, formAt(c, k) ^ 1 << dot);
                faults[c] = faultsOf(c);
                spoiled++;
            }
        }

        private void mend(int c, int k) {
            int grid = formAt(c, k);
            int unlike = grid ^ models.grids[k];
            if (unlike != 0) {
                setForm(c, k, grid ^ unlike & -unlike);
                faults[c]--;
                mended++;
            }
        }

        private int draw() {
            x = 25173 * x + 13849 & SEED_MOST;
            return x % 10;
        }
    }

    /** The letters of the order, with rounds written out. */
    private static final class Order {
        static final int OPEN_MOST = 2;

        final int[] letters = new int[ORDER_LETTERS];
        final int[] draft = new int[ORDER_LETTERS];
        final int[] openPlace = new int[OPEN_MOST];
        final int[] openMade = new int[OPEN_MOST];
        int length;
        private int made;
        private int open;

        /** How many letters, or a fault: then the order stays. */
        int readOrder(Tape tape, int n) {
            made = 0;
            open = 0;
            int at = 0;
            for (int turn = 0; turn < n && at < n; turn++) {
                int sign = tape.byteAt(at);
                int times = sign == '(' ? 1 : timesAt(tape, n, at + 1);
                int wrong = sign == '(' ? openRound(at) : sign == ')' ? shutRound(at, times) : putLetter(sign, at, times);
                if (wrong != 0) {
                    return wrong;
                }
                at += times > 1 ? 2 : 1;
            }
            if (open > 0) {
                return fault(FAULT_SIGN, n);
            }
            System.arraycopy(draft, 0, letters, 0, made);
            length = made;
            return made;
        }

        private int openRound(int place) {
            if (open >= OPEN_MOST) {
                return fault(FAULT_DEEP, place);
            }
            openPlace[open] = place;
            openMade[open] = made;
            open++;
            return 0;
        }

        private int shutRound(int place, int times) {
            if (open < 1 || made <= openMade[open - 1]) {
                return fault(FAULT_SIGN, place);
            }
            open--;
            return repeat(openPlace[open], openMade[open], times);
        }

        private int putLetter(int sign, int place, int times) {
            if (sign < 'A' || sign > 'H') {
                return fault(FAULT_SIGN, place);
            }
            if (made >= ORDER_LETTERS) {
                return fault(FAULT_LONG, place);
            }
            draft[made] = sign - 'A';
            made++;
            return repeat(place, made - 1, times);
        }

        /** Writes what was made since then so many times in all; a fault belongs to the place where it began. */
        private int repeat(int place, int since, int times) {
            int span = made - since;
            int total = since + span * times;
            if (total > ORDER_LETTERS) {
                return fault(FAULT_LONG, place);
            }
            for (int i = made; i < total; i++) {
                draft[i] = draft[i - span];
            }
            made = total;
            return 0;
        }

        private static int timesAt(Tape tape, int n, int at) {
            int sign = at < n ? tape.byteAt(at) : NONE;
            return sign >= '2' && sign <= '9' ? sign - '0' : 1;
        }
    }

    /** Blots as texts, done line by line as they are read. */
    private static final class Blots {
        static final int LINES_MOST = 20;
        static final int BEFORE_A = 'a' - 1;

        private Blots() {
        }

        /** How many lines, or a fault: then some lines may have been done to the court that was handed over. */
        static int doLines(Tape tape, int n, Court court) {
            int at = 0;
            for (int line = 0; line <= LINES_MOST; line++) {
                int wrong = faultAhead(tape, n, at, line, court);
                if (wrong != 0) {
                    return wrong;
                }
                int c = tape.byteAt(at) - '0';
                int k = tape.byteAt(at + 1) - 'A';
                int end = lineEnd(tape, n, at + 2);
                if (end == at + 2) {
                    return fault(FAULT_SIGN, end);
                }
                court.setForm(c, k, blotted(court.formAt(c, k), tape, at + 2, end));
                if (end >= n) {
                    return line + 1;
                }
                if (tape.byteAt(end) != ';') {
                    return fault(FAULT_SIGN, end);
                }
                at = end + 1;
            }
            return fault(FAULT_MANY, at);
        }

        /** The fault in whose letter a line is about, 0 if there is none. */
        private static int faultAhead(Tape tape, int n, int at, int line, Court court) {
            int c = at < n ? tape.byteAt(at) - '0' : NONE;
            if (c < 0 || c > 9) {
                return fault(FAULT_SIGN, at);
            }
            if (line >= LINES_MOST) {
                return fault(FAULT_MANY, at);
            }
            if (!court.has(c)) {
                return fault(FAULT_UNKNOWN, at);
            }
            int k = at + 1 < n ? tape.byteAt(at + 1) - 'A' : NONE;
            if (k < 0 || k >= LETTERS) {
                return fault(FAULT_SIGN, at + 1);
            }
            return court.models.has(k) ? 0 : fault(FAULT_UNKNOWN, at + 1);
        }

        /** The place behind the one sign or the dots that begin at from (from itself: there are none). */
        private static int lineEnd(Tape tape, int n, int from) {
            int sign = from < n ? tape.byteAt(from) : NONE;
            if (sign == '!' || sign == '~' || sign == '<' || sign == '>' || sign == '|') {
                return from + 1;
            }
            int end = from;
            while (end < n && tape.byteAt(end) > BEFORE_A && tape.byteAt(end) <= BEFORE_A + Grids.DOTS) {
                end++;
            }
            return end;
        }

        private static int blotted(int grid, Tape tape, int from, int end) {
            switch (tape.byteAt(from)) {
                case '!':
                    return 0;
                case '~':
                    return grid ^ Grids.ALL;
                case '<':
                    return Grids.toLeft(grid);
                case '>':
                    return Grids.toRight(grid);
                case '|':
                    return Grids.mirrored(grid);
                default:
                    int out = grid;
                    for (int at = from; at < end; at++) {
                        out ^= 1 << tape.byteAt(at) - 'a';
                    }
                    return out;
            }
        }
    }

    /**
     * The law as code for a small machine with a stack: numbers and names put a value, signs reckon
     * with the upper two, and & and | leap over what does not matter any more.
     */
    private static final class Law {
        static final int RULES_MOST = 16;
        static final int TENTHS_BOUND = 10;
        static final int INK_BOUND = 99;
        /** A byte of the text gives two places at most, so no law that can be read is longer. */
        static final int CODE_MOST = 2 * LAW_BYTES;
        /** Six open brackets with a sum and a product each, and a comparison: 16 would do. */
        static final int STACK_MOST = 32;
        static final String NAMES = "calgskfdm";
        static final int END = 0;
        /** Below stand the signs by their own numbers. */
        static final int FIRST_NAME = 256;
        static final int FIRST_NUMBER = FIRST_NAME + 9;

        final int[] code = new int[CODE_MOST];
        final int[] stack = new int[STACK_MOST];
        final int[] known = new int[FIRST_NUMBER - FIRST_NAME];
        final int[] kinds = new int[RULES_MOST];
        final int[] amounts = new int[RULES_MOST];
        final int[] conditions = new int[RULES_MOST];
        int length;
        int rules;

        void meet(int c, int age, int rank, int month) {
            known[0] = c;
            known[1] = age;
            known[3] = rank;
            known[8] = month;
        }

        void see(int ink, int faults) {
            known[2] = ink;
            known[4] = faults;
        }

        void lookAt(int k, int faults, int black) {
            known[5] = k;
            known[6] = faults;
            known[7] = black;
        }

        /** The amount of the first rule of a kind that holds, within 0 and the bound. */
        int worth(int kind, int bound) {
            for (int r = 0; r < rules; r++) {
                if (kinds[r] == kind && run(conditions[r]) != 0) {
                    return Math.max(0, Math.min(bound, run(amounts[r])));
                }
            }
            return 0;
        }

        boolean forbids() {
            for (int r = 0; r < rules; r++) {
                if (kinds[r] == 'x' && run(conditions[r]) != 0) {
                    return true;
                }
            }
            return false;
        }

        /** What the code from there to its END comes to; 0, too, where a division is refused. */
        private int run(int from) {
            int top = 0;
            int at = from;
            for (int step = 0; step < CODE_MOST && at >= 0 && at < length; step++) {
                int op = code[at];
                at++;
                if (op >= FIRST_NAME) {
                    if (top >= STACK_MOST) {
                        return 0;
                    }
                    stack[top] = op < FIRST_NUMBER ? known[op - FIRST_NAME] : op - FIRST_NUMBER;
                    top++;
                } else if (op == END || top < 1 || at >= length) {
                    break;
                } else if (op == '!') {
                    stack[top - 1] ^= 1;
                } else if (op == '&' || op == '|') {
                    boolean isSettled = stack[top - 1] != 0 == (op == '|');
                    top -= isSettled ? 0 : 1;
                    at = isSettled ? code[at] : at + 1;
                } else {
                    top--;
                    boolean isRefused = (op == '/' || op == '%') && stack[top] == 0;
                    if (top < 1 || isRefused) {
                        return 0;
                    }
                    stack[top - 1] = reckon(op, stack[top - 1], stack[top]);
                }
            }
            return top > 0 ? stack[0] : 0;
        }

        private static int reckon(int sign, int left, int right) {
            switch (sign) {
                case '+':
                    return left + right;
                case '-':
                    return left - right;
                case '*':
                    return left * right;
                case '/':
                    return right == 0 ? 0 : left / right;
                case '%':
                    return right == 0 ? 0 : left % right;
                case '<':
                    return left < right ? 1 : 0;
                case '>':
                    return left > right ? 1 : 0;
                default:
                    return left == right ? 1 : 0;
            }
        }

        void begin() {
            length = 0;
            rules = 0;
        }

        void put(int op) {
            if (length < CODE_MOST) {
                code[length] = op;
                length++;
            }
        }

        /** Puts a leap whose end is not known yet: the place where it is to be written. */
        int putLeap(int sign) {
            put(sign);
            put(CODE_MOST);
            return length - 1;
        }

        void endLeap(int place) {
            if (place >= 0 && place < CODE_MOST) {
                code[place] = length;
            }
        }

        void addRule(int kind, int amount, int condition) {
            if (rules < RULES_MOST) {
                kinds[rules] = kind;
                amounts[rules] = amount;
                conditions[rules] = condition;
                rules++;
            }
        }
    }

    /** Reads a law from the tape, sign by sign; the first fault ends it. */
    private static final class LawReader {
        static final int DEPTH_MOST = 6;
        static final int DIGITS_MOST = 5;

        private final Tape tape;
        private Law draft = new Law();
        private int end;
        private int at;
        private int wrong;

        LawReader(Tape tape) {
            this.tape = tape;
        }

        /** Gives the law that was read last and takes another one to write the next into. */
        Law handOver(Law old) {
            Law read = draft;
            draft = old;
            return read;
        }

        /** How many rules, or a fault. */
        int readLaw(int n) {
            end = n;
            at = 0;
            wrong = 0;
            draft.begin();
            for (int rule = 0; rule <= Law.RULES_MOST; rule++) {
                readRule();
                if (wrong != 0) {
                    return wrong;
                }
                if (at >= end) {
                    return draft.rules;
                }
                pass(';');
            }
            return wrong;
        }

        private int sign() {
            return at < end ? tape.byteAt(at) : NONE;
        }

        private boolean isSign(int one, int other) {
            int sign = sign();
            return wrong == 0 && (sign == one || sign == other);
        }

        private void fail(int number) {
            if (wrong == 0) {
                wrong = fault(number, at);
            }
        }

        private void pass(int sign) {
            if (sign() == sign) {
                at++;
            } else {
                fail(FAULT_SIGN);
            }
        }

        /** Passes a sign that opens, if so many are not open already. */
        private boolean opens(int depth) {
            if (depth >= DEPTH_MOST) {
                fail(FAULT_DEEP);
                return false;
            }
            at++;
            return true;
        }

        private void readRule() {
            int kind = sign();
            if (wrong != 0 || kind != 'p' && kind != 'w' && kind != 'i' && kind != 'x') {
                fail(FAULT_SIGN);
                return;
            }
            if (draft.rules >= Law.RULES_MOST) {
                fail(FAULT_MANY);
                return;
            }
            at++;
            int amount = draft.length;
            if (kind != 'x') {
                readSum(0);
            }
            draft.put(Law.END);
            int condition = draft.length;
            if (wrong == 0) {
                pass('(');
            }
            readCondition(1);
            if (wrong == 0) {
                pass(')');
            }
            draft.put(Law.END);
            draft.addRule(kind, amount, condition);
        }

        private void readCondition(int depth) {
            readPart(depth);
            for (int turn = 0; turn < LAW_BYTES && isSign('|', '|'); turn++) {
                at++;
                int leap = draft.putLeap('|');
                readPart(depth);
                draft.endLeap(leap);
            }
        }

        private void readPart(int depth) {
            readTest(depth);
            for (int turn = 0; turn < LAW_BYTES && isSign('&', '&'); turn++) {
                at++;
                int leap = draft.putLeap('&');
                readTest(depth);
                draft.endLeap(leap);
            }
        }

        private void readTest(int depth) {
            if (wrong != 0) {
                return;
            }
            int first = sign();
            if (first == '!') {
                if (opens(depth)) {
                    readTest(depth + 1);
                    draft.put('!');
                }
            } else if (first == '(') {
                if (opens(depth)) {
                    readCondition(depth + 1);
                    pass(')');
                }
            } else {
                readSum(depth);
                int compare = sign();
                if (wrong == 0 && (compare == '<' || compare == '>' || compare == '=')) {
                    at++;
                    readSum(depth);
                    draft.put(compare);
                } else {
                    fail(FAULT_SIGN);
                }
            }
        }

        private void readSum(int depth) {
            readProduct(depth);
            for (int turn = 0; turn < LAW_BYTES && isSign('+', '-'); turn++) {
                int sign = sign();
                at++;
                readProduct(depth);
                draft.put(sign);
            }
        }

        private void readProduct(int depth) {
            readFactor(depth);
            for (int turn = 0; turn < LAW_BYTES && (isSign('*', '/') || isSign('%', '%')); turn++) {
                int sign = sign();
                at++;
                readFactor(depth);
                draft.put(sign);
            }
        }

        private void readFactor(int depth) {
            if (wrong != 0) {
                return;
            }
            int first = sign();
            int name = first > 0 ? Law.NAMES.indexOf((char) first) : NONE;
            if (first == '[') {
                if (opens(depth)) {
                    readSum(depth + 1);
                    pass(']');
                }
            } else if (isDigit(first)) {
                readNumber();
            } else if (name >= 0) {
                at++;
                draft.put(Law.FIRST_NAME + name);
            } else {
                fail(FAULT_SIGN);
            }
        }

        private void readNumber() {
            int value = 0;
            for (int digits = 0; digits < DIGITS_MOST && isDigit(sign()); digits++) {
                value = 10 * value + sign() - '0';
                at++;
            }
            if (isDigit(sign())) {
                fail(FAULT_DIGIT);
            }
            draft.put(Law.FIRST_NUMBER + value);
        }

        private static boolean isDigit(int sign) {
            return sign >= '0' && sign <= '9';
        }
    }
}
