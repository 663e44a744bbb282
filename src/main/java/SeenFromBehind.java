/**
 * A hill of cells with people of kinds on it, each of whom sees who is next ahead of him and, through the lens,
 * who is next behind him. The promises are told in ../shared/DOC.md.
 *
 * Every array is read and written by at() and put(), which look at the index first; all rows are made once, with
 * the object, so that no call makes anything.
 */
public final class SeenFromBehind {

    private static final int VIEWER = 0;
    private static final int GIRL = 1;
    private static final int BORE = 2;
    private static final int MASTER = 3;
    private static final int GRINDER = 4;
    private static final int EDGE = 5;
    private static final int KINDS = 6;

    private static final int FIGURES = 10;
    private static final int MOST_PEOPLE = 6;

    private static final int WIDE = 6;
    private static final int CELLS = 36;
    private static final int OFF_THE_HILL = -1;

    private static final int UP = 0;
    private static final int RIGHT = 1;
    private static final int DOWN = 2;
    private static final int LEFT = 3;
    private static final int WAYS = 4;
    private static final int STAYING = 4;

    private static final int MOST_STARTS = 99;
    private static final int LAST_NIGHT = 999;
    private static final int MOST_NIGHTS = 60;
    private static final int MOST_NIGHTS_SLEPT = 8;
    private static final int MOST_ODDS = 20;
    private static final int MOST_LOTS = 20;
    private static final int NIGHTS_OF_A_LOT = 10;
    private static final int MOST_BACK = 8;
    private static final int MOST_LETTERS = 96;
    private static final int MOST_LETTER = 255;
    private static final int MOST_TOLD = 12;
    private static final int MOST_TOLD_NUMBER = 99;
    private static final int HIDDEN_REACH = 5;
    private static final int POST_FIGURE = 5;

    /** What a call answers where there is no such one, cell or night. */
    private static final int NONE = -9;

    private static final int NOBODY = -1;
    private static final int OTHER = -2;
    private static final int STATE = -3;
    private static final int BELOW = -4;
    private static final int ROOM = -6;
    private static final int REFUSALS = 7;
    private static final long LONG_REFUSAL = 4000000000000000000L;

    private static final int FAULT_OF_LETTERS = -1000;
    private static final int FAULT_OF_STATEMENT = -2000;

    private final Hill now = new Hill();
    /** Where things are tried that do not come to pass. */
    private final Hill mind = new Hill();
    /** One hill for each night that slept() looks ahead, behind the one in mind. */
    private final Hill[] deeper = new Hill[MOST_NIGHTS_SLEPT];
    private final Hill taken = new Hill();
    private boolean imageTaken = false;
    private final Past past = new Past();
    private final Text text = new Text();
    private final int[] told = new int[MOST_TOLD];
    private int toldSize = 0;
    private final int[] refusals = new int[REFUSALS];

    public SeenFromBehind() {
        for (int i = 0; i < deeper.length; i++) {
            deeper[i] = new Hill();
        }
    }

    // ---- I: people, nights, letters ----

    public int feed(int letter) {
        if (letter < 0) {
            return refuse(BELOW);
        }
        if (letter > MOST_LETTER || text.size >= MOST_LETTERS) {
            return refuse(ROOM);
        }
        return text.append(letter);
    }

    public int hill() {
        int wrong = text.wrongPlace();
        int answer = wrong == NONE ? 0 : FAULT_OF_LETTERS - wrong;
        mind.become(now);
        for (int place = 0; place < text.size && answer >= 0; place++) {
            if (text.beginsStatement(place)) {
                answer = text.comesTo(mind, place) ? answer + 1 : FAULT_OF_STATEMENT - place;
            }
        }
        text.forget();
        if (answer > 0) {
            now.become(mind);
            past.forget();
        }
        return answer;
    }

    public int personOf(int person, int what) {
        if (!now.has(person)) {
            return refuse(NOBODY);
        }
        switch (what) {
            case 0:
                return now.kindOf(person);
            case 1:
                return now.figureOf(person);
            case 2:
                return now.cellOf(person);
            case 3:
                return now.facesOf(person);
            case 4:
                return now.startsOf(person);
            case 5:
                return now.reachOf(person);
            case 6:
                return now.depthOf(person);
            default:
                return refuse(OTHER);
        }
    }

    public int person(int kind, int figure, int cell, int faces) {
        if (!isKind(kind)) {
            return refuse(OTHER);
        }
        if (figure < 0) {
            return refuse(BELOW);
        }
        if (figure >= FIGURES || now.size >= MOST_PEOPLE) {
            return refuse(ROOM);
        }
        if (!isCell(cell) || !isWay(faces)) {
            return refuse(NOBODY);
        }
        if (!now.isFree(cell)) {
            return refuse(STATE);
        }
        past.forget();
        return now.join(kind, figure, cell, faces);
    }

    public int turns(int person, int faces) {
        if (!now.has(person) || !isWay(faces)) {
            return refuse(NOBODY);
        }
        past.keep(now);
        int before = now.facesOf(person);
        now.face(person, faces);
        return before;
    }

    public int stands(int person, int cell) {
        if (!now.has(person) || !isCell(cell)) {
            return refuse(NOBODY);
        }
        if (!now.isFree(cell)) {
            return refuse(STATE);
        }
        past.keep(now);
        int before = now.cellOf(person);
        now.place(person, cell);
        return before;
    }

    public int nights(int n) {
        if (n < 1) {
            return refuse(BELOW);
        }
        if (!now.hasRoomFor(n)) {
            return refuse(ROOM);
        }
        past.keep(now);
        now.pass(n);
        return now.startsTogether();
    }

    public int back() {
        if (past.size < 1) {
            return refuse(STATE);
        }
        now.become(past.giveBack());
        return past.size;
    }

    // ---- II: what one sees, in mind ----

    public int behind(int person, int n, int what) {
        int wrong = wrongNights(person, n);
        if (wrong != 0) {
            return refuse(wrong);
        }
        if (what < 0 || what > 5) {
            return refuse(OTHER);
        }
        lookAhead(n);
        switch (what) {
            case 0:
                return mind.cellOf(person);
            case 1:
                return mind.facesOf(person);
            case 2:
                return mind.startsOf(person);
            case 3:
                return mind.ahead(person);
            case 4:
                return mind.inLens(person);
            default:
                return mind.watchers(person);
        }
    }

    public int allStarts(int n) {
        if (n < 0) {
            return refuse(BELOW);
        }
        if (n > MOST_NIGHTS) {
            return refuse(ROOM);
        }
        lookAhead(n);
        return mind.startsTogether();
    }

    public int first(int person, int what) {
        int wrong = wrongWhat(person, what, 1);
        if (wrong != 0) {
            return refuse(wrong);
        }
        mind.become(now);
        for (int n = 0; n <= MOST_NIGHTS; n++) {
            boolean so = what == 0 ? mind.watchers(person) != 0 : mind.inLens(person) != NONE;
            if (so) {
                return n;
            }
            mind.nightWithout(NONE);
        }
        return NONE;
    }

    public int still() {
        mind.become(now);
        for (int n = 0; n <= MOST_NIGHTS; n++) {
            mind.nightWithout(NONE);
            if (mind.stirred == 0) {
                return n;
            }
        }
        return NONE;
    }

    public int unseen() {
        int seen = 0;
        for (int p = 0; p < now.size; p++) {
            seen |= bitOf(now.ahead(p)) | bitOf(now.inLens(p));
        }
        return now.everybody() & ~seen;
    }

    public int chain(int person, int what) {
        int wrong = wrongWhat(person, what, 2);
        return wrong != 0 ? refuse(wrong) : now.chainOf(person, what);
    }

    public int deepest() {
        int best = NONE;
        int longestChain = 0;
        for (int p = 0; p < now.size; p++) {
            int many = now.chainOf(p, 0);
            if (many > longestChain) {
                longestChain = many;
                best = p;
            }
        }
        return best;
    }

    public int knows(int person, int d) {
        if (!now.has(person)) {
            return refuse(NOBODY);
        }
        if (d < 0) {
            return refuse(BELOW);
        }
        if (d > MOST_PEOPLE) {
            return refuse(ROOM);
        }
        int known = bitOf(person);
        for (int i = 0; i < d; i++) {
            known |= now.seenBy(known);
        }
        return known;
    }

    public int safe(int person, int what) {
        int wrong = wrongWhat(person, what, 1);
        if (wrong != 0) {
            return refuse(wrong);
        }
        mind.become(now);
        int safeFaces = 0;
        int best = NONE;
        for (int faces = 0; faces < WAYS; faces++) {
            mind.face(person, faces);
            if (mind.inLens(person) == NONE) {
                safeFaces |= bitOf(faces);
                best = best == NONE && mind.ahead(person) != NONE ? faces : best;
            }
        }
        return what == 0 ? safeFaces : best;
    }

    public int alone(int person, int what) {
        int wrong = wrongWhat(person, what, 1);
        if (wrong != 0) {
            return refuse(wrong);
        }
        mind.become(now);
        int many = 0;
        int least = NONE;
        for (int cell = 0; cell < CELLS; cell++) {
            if (now.isFree(cell)) {
                mind.place(person, cell);
                if (mind.inLens(person) == NONE && mind.watchers(person) == 0) {
                    many++;
                    least = least == NONE ? cell : least;
                }
            }
        }
        return what == 0 ? many : least;
    }

    public int turnAll() {
        int many = 0;
        for (int p = 0; p < now.size; p++) {
            if (now.ahead(p) != NONE) {
                many++;
                if (now.seesAllWays(p)) {
                    return NONE;
                }
            }
        }
        return many;
    }

    public int post(int kind) {
        if (!isKind(kind)) {
            return refuse(OTHER);
        }
        if (now.size >= MOST_PEOPLE) {
            return refuse(STATE);
        }
        mind.become(now);
        int newcomer = mind.join(kind, POST_FIGURE, OFF_THE_HILL, UP);
        for (int cell = 0; cell < CELLS; cell++) {
            if (now.isFree(cell)) {
                mind.place(newcomer, cell);
                int faces = mind.watchers(newcomer) == 0 ? mind.facesToSeeUnseen(newcomer) : NONE;
                if (faces != NONE) {
                    return 10 * cell + faces;
                }
            }
        }
        return NONE;
    }

    public int which(int person, int what) {
        int wrong = wrongWhat(person, what, 2);
        if (wrong != 0) {
            return refuse(wrong);
        }
        int tries = what == 0 ? KINDS : what == 1 ? FIGURES : WAYS;
        int fitting = 0;
        for (int i = 0; i < tries; i++) {
            mind.become(now);
            if (what == 0) {
                mind.beOfKind(person, i);
            } else if (what == 1) {
                mind.beOfFigure(person, i);
            } else {
                mind.face(person, i);
            }
            fitting |= turnsAsTold(person) ? bitOf(i) : 0;
        }
        return fitting;
    }

    public int bestStep(int person) {
        if (!now.has(person)) {
            return refuse(NOBODY);
        }
        mind.become(now);
        int best = STAYING;
        int fewest = MOST_PEOPLE + 1;
        for (int step = 0; step <= STAYING; step++) {
            int cell = now.cellOfStep(person, step);
            if (cell != OFF_THE_HILL) {
                mind.place(person, cell);
                int many = Integer.bitCount(mind.watchers(person));
                if (many < fewest) {
                    fewest = many;
                    best = step;
                }
            }
        }
        return best;
    }

    public int two(int one, int other) {
        if (!areTwo(one, other)) {
            return refuse(NOBODY);
        }
        int steps = 0;
        for (int step = 0; step <= STAYING; step++) {
            steps |= now.cellOfStep(other, step) != OFF_THE_HILL ? bitOf(step) : 0;
        }
        int seen = stepsSeenByFaces(one, other);
        for (int faces = 0; faces < WAYS; faces++) {
            for (int step = 0; step <= STAYING; step++) {
                if ((steps & bitOf(step)) != 0 && neitherHasBetter(seen, steps, faces, step)) {
                    return 10 * faces + step;
                }
            }
        }
        return NONE;
    }

    public long slept(int person, int f, int n, int t, int part) {
        if (!now.has(person) || !isWay(f)) {
            return LONG_REFUSAL - refuse(NOBODY);
        }
        if (n < 0 || t < 2) {
            return LONG_REFUSAL - refuse(BELOW);
        }
        if (n > MOST_NIGHTS_SLEPT || t > MOST_ODDS) {
            return LONG_REFUSAL - refuse(ROOM);
        }
        if (part < 0 || part > 1) {
            return LONG_REFUSAL - refuse(OTHER);
        }
        long below = 1;
        for (int i = 0; i < n; i++) {
            below *= t;
        }
        mind.become(now);
        long above = waysToFace(mind, deeper, n, person, f, t);
        long common = commonDivisor(above, below);
        if (common < 1) {
            return part;
        }
        return part == 0 ? above / common : below / common;
    }

    // ---- III and IV: what is to be told of all ----

    public int busiest(int what) {
        if (what < 0 || what > 1) {
            return refuse(OTHER);
        }
        int best = NONE;
        int most = NONE;
        for (int p = 0; p < now.size; p++) {
            int many = Integer.bitCount(now.watchers(p));
            if (many > most) {
                most = many;
                best = p;
            }
        }
        return what == 0 ? best : most;
    }

    public int twos(int what) {
        if (what < 0 || what > 1) {
            return refuse(OTHER);
        }
        int many = 0;
        for (int p = 0; p < now.size; p++) {
            int seen = what == 0 ? now.ahead(p) : now.inLens(p);
            // Each two is met from its lesser one alone.
            if (seen > p) {
                int seenBack = what == 0 ? now.ahead(seen) : now.inLens(seen);
                many += seenBack == p ? 1 : 0;
            }
        }
        return many;
    }

    public int nearest(int what) {
        if (what < 0 || what > 1) {
            return refuse(OTHER);
        }
        int best = NONE;
        int fewest = NONE;
        for (int p = 0; p < now.size; p++) {
            for (int q = p + 1; q < now.size; q++) {
                int apart = now.cellsApart(p, q);
                if (best == NONE || apart < fewest) {
                    fewest = apart;
                    best = 10 * p + q;
                }
            }
        }
        return what == 0 ? best : fewest;
    }

    public int lines() {
        int many = 0;
        for (int line = 0; line < WIDE; line++) {
            int inRow = 0;
            int inColumn = 0;
            for (int p = 0; p < now.size; p++) {
                inRow += rowOf(now.cellOf(p)) == line ? 1 : 0;
                inColumn += columnOf(now.cellOf(p)) == line ? 1 : 0;
            }
            many += (inRow > 1 ? 1 : 0) + (inColumn > 1 ? 1 : 0);
        }
        return many;
    }

    public int hidden() {
        int seen = 0;
        for (int p = 0; p < now.size; p++) {
            seen |= bitOf(now.nextTo(p, now.facesOf(p), HIDDEN_REACH));
        }
        return now.everybody() & ~seen;
    }

    public int longest() {
        int best = NONE;
        int greatest = NONE;
        for (int p = 0; p < now.size; p++) {
            if (now.reachOf(p) > greatest) {
                greatest = now.reachOf(p);
                best = p;
            }
        }
        return best;
    }

    public int walks(int person, int n, int what) {
        int wrong = wrongNights(person, n);
        if (wrong != 0) {
            return refuse(wrong);
        }
        if (what < 0 || what > 1) {
            return refuse(OTHER);
        }
        mind.become(now);
        int steps = 0;
        int turnings = 0;
        for (int i = 0; i < n; i++) {
            int cell = mind.cellOf(person);
            int faces = mind.facesOf(person);
            mind.nightWithout(NONE);
            steps += mind.cellOf(person) != cell ? 1 : 0;
            turnings += mind.facesOf(person) != faces ? 1 : 0;
        }
        return what == 0 ? steps : turnings;
    }

    public int meets(int one, int other) {
        if (!areTwo(one, other)) {
            return refuse(NOBODY);
        }
        mind.become(now);
        for (int n = 0; n <= MOST_NIGHTS; n++) {
            if (mind.cellsApart(one, other) == 1) {
                return n;
            }
            mind.nightWithout(NONE);
        }
        return NONE;
    }

    public int leave(int person, int other) {
        if (!areTwo(person, other)) {
            return refuse(NOBODY);
        }
        mind.become(now);
        mind.place(other, OFF_THE_HILL);
        return mind.watchers(person);
    }

    public int most(int person, int what) {
        int wrong = wrongWhat(person, what, 1);
        if (wrong != 0) {
            return refuse(wrong);
        }
        mind.become(now);
        int best = NONE;
        int greatest = NONE;
        for (int cell = 0; cell < CELLS; cell++) {
            if (now.isFree(cell)) {
                mind.place(person, cell);
                int many = Integer.bitCount(mind.watchers(person));
                if (many > greatest) {
                    greatest = many;
                    best = cell;
                }
            }
        }
        return what == 0 ? best : greatest;
    }

    public int quiet(int n) {
        if (n < 0) {
            return refuse(BELOW);
        }
        if (n > MOST_NIGHTS) {
            return refuse(ROOM);
        }
        mind.become(now);
        for (int i = 0; i < n; i++) {
            mind.nightWithout(NONE);
            if (mind.started != 0) {
                return 0;
            }
        }
        return 1;
    }

    // ---- the row, lots, the image, counts ----

    public int row(int v) {
        if (v < 0) {
            return refuse(BELOW);
        }
        if (v > MOST_TOLD_NUMBER || toldSize >= MOST_TOLD) {
            return refuse(ROOM);
        }
        put(told, toldSize, v);
        toldSize++;
        return toldSize;
    }

    public int judge() {
        int answer = NONE;
        for (int i = 0; i < toldSize && answer == NONE; i++) {
            boolean so = now.has(i) && now.cellOf(i) == at(told, i);
            answer = so ? NONE : i;
        }
        toldSize = 0;
        return answer;
    }

    public int clear() {
        int many = toldSize;
        toldSize = 0;
        return many;
    }

    public int lots(int n, int z, int what) {
        if (n < 1) {
            return refuse(BELOW);
        }
        if (n > MOST_LOTS) {
            return refuse(ROOM);
        }
        if (what < 0 || what > 1) {
            return refuse(OTHER);
        }
        int seed = z;
        int startsMore = 0;
        int watching = 0;
        for (int i = 0; i < n; i++) {
            mind.become(now);
            for (int p = 0; p < mind.size; p++) {
                seed = nextSeed(seed);
                mind.face(p, drawOf(seed, WAYS));
            }
            mind.pass(NIGHTS_OF_A_LOT);
            startsMore += mind.startsTogether() - now.startsTogether();
            watching += mind.howManySee(true);
        }
        return what == 0 ? startsMore : watching;
    }

    public int image() {
        taken.become(now);
        imageTaken = true;
        return now.night;
    }

    public int restore() {
        if (!imageTaken) {
            return refuse(STATE);
        }
        now.become(taken);
        past.forget();
        return now.night;
    }

    public int count(int what) {
        switch (what) {
            case 0:
                return now.size;
            case 1:
                return now.night;
            case 2:
                return now.startsTogether();
            case 3:
                return now.howManySee(true);
            case 4:
                return now.howManySee(false);
            case 5:
                return text.size;
            case 6:
                return toldSize;
            case 7:
                return past.size;
            default:
                return what >= 11 && what <= 16 ? at(refusals, what - 10) : NONE;
        }
    }

    // ---- what the calls share ----

    private int refuse(int number) {
        put(refusals, -number, at(refusals, -number) + 1);
        return number;
    }

    /** 0, or the refusal of a call that tells one and one of the numbers 0 .. last. */
    private int wrongWhat(int person, int what, int last) {
        if (!now.has(person)) {
            return NOBODY;
        }
        return what < 0 || what > last ? OTHER : 0;
    }

    /** 0, or the refusal of a call that tells one and how many nights on. */
    private int wrongNights(int person, int n) {
        if (!now.has(person)) {
            return NOBODY;
        }
        if (n < 0) {
            return BELOW;
        }
        return n > MOST_NIGHTS ? ROOM : 0;
    }

    private boolean areTwo(int one, int other) {
        return now.has(one) && now.has(other) && one != other;
    }

    private void lookAhead(int n) {
        mind.become(now);
        for (int i = 0; i < n; i++) {
            mind.nightWithout(NONE);
        }
    }

    /** Whether one faces, on the hill in mind and its nights, as the told numbers say. */
    private boolean turnsAsTold(int person) {
        for (int i = 0; i < toldSize; i++) {
            if (mind.facesOf(person) != at(told, i)) {
                return false;
            }
            mind.nightWithout(NONE);
        }
        return true;
    }

    /** A bit for each face of one and step of another by which the first has the other ahead or in the lens. */
    private int stepsSeenByFaces(int one, int other) {
        int seen = 0;
        mind.become(now);
        for (int step = 0; step <= STAYING; step++) {
            int cell = now.cellOfStep(other, step);
            if (cell != OFF_THE_HILL) {
                mind.place(other, cell);
                for (int faces = 0; faces < WAYS; faces++) {
                    mind.face(one, faces);
                    boolean sees = mind.ahead(one) == other || mind.inLens(one) == other;
                    seen |= sees ? pairBit(faces, step) : 0;
                }
            }
        }
        return seen;
    }

    private static boolean neitherHasBetter(int seen, int steps, int faces, int step) {
        if ((seen & pairBit(faces, step)) != 0) {
            for (int i = 0; i <= STAYING; i++) {
                if ((steps & bitOf(i)) != 0 && (seen & pairBit(faces, i)) == 0) {
                    return false;
                }
            }
            return true;
        }
        for (int i = 0; i < WAYS; i++) {
            if ((seen & pairBit(i, step)) != 0) {
                return false;
            }
        }
        return true;
    }

    private static int pairBit(int faces, int step) {
        return bitOf(faces * (STAYING + 1) + step);
    }

    /**
     * Of the t to the n ways in which n nights can go, counted by their odds, those behind which one faces f.
     * A night is looked at twice only where it makes a difference whether he sleeps.
     */
    private static long waysToFace(Hill from, Hill[] deeper, int n, int person, int f, int t) {
        if (n < 1 || n > deeper.length) {
            return from.facesOf(person) == f ? 1 : 0;
        }
        Hill next = deeper[n - 1];
        if (next == null) {
            return 0;
        }
        next.become(from);
        next.nightWithout(NONE);
        boolean stirs = (next.stirred & bitOf(person)) != 0;
        long awake = waysToFace(next, deeper, n - 1, person, f, t);
        if (!stirs) {
            return t * awake;
        }
        next.become(from);
        next.nightWithout(person);
        return (t - 1) * awake + waysToFace(next, deeper, n - 1, person, f, t);
    }

    private static long commonDivisor(long one, long other) {
        long greater = one;
        long lesser = other;
        for (int i = 0; i < 1000 && lesser != 0; i++) {
            long rest = greater % lesser;
            greater = lesser;
            lesser = rest;
        }
        return greater;
    }

    private static int nextSeed(int z) {
        return z * 1103515245 + 12345;
    }

    private static int drawOf(int z, int n) {
        return n > 0 ? (z & 0x7fffffff) / 65536 % n : 0;
    }

    private static int at(int[] numbers, int i) {
        return numbers != null && i >= 0 && i < numbers.length ? numbers[i] : 0;
    }

    private static void put(int[] numbers, int i, int number) {
        if (numbers != null && i >= 0 && i < numbers.length) {
            numbers[i] = number;
        }
    }

    /** No bit for nobody, so that what is seen can be put together without asking. */
    private static int bitOf(int i) {
        return i >= 0 && i < 32 ? 1 << i : 0;
    }

    private static boolean isKind(int kind) {
        return kind >= 0 && kind < KINDS;
    }

    private static boolean isCell(int cell) {
        return cell >= 0 && cell < CELLS;
    }

    private static boolean isWay(int faces) {
        return faces >= 0 && faces < WAYS;
    }

    private static int rowOf(int cell) {
        return cell / WIDE;
    }

    private static int columnOf(int cell) {
        return cell % WIDE;
    }

    private static int turned(int faces, int quarters) {
        return (faces + quarters) % WAYS;
    }

    /** The cell next to one, off the hill where there is none. */
    private static int cellBeside(int cell, int way) {
        if (cell < 0 || cell >= CELLS) {
            return OFF_THE_HILL;
        }
        int column = cell % WIDE;
        switch (way) {
            case UP:
                return cell >= WIDE ? cell - WIDE : OFF_THE_HILL;
            case RIGHT:
                return column < WIDE - 1 ? cell + 1 : OFF_THE_HILL;
            case DOWN:
                return cell < CELLS - WIDE ? cell + WIDE : OFF_THE_HILL;
            case LEFT:
                return column > 0 ? cell - 1 : OFF_THE_HILL;
            default:
                return OFF_THE_HILL;
        }
    }

    private static int reach(int kind, int figure) {
        int ofViewer = 3;
        int ofGirl = ofViewer + 1;
        switch (kind) {
            case GIRL:
                return ofGirl;
            case BORE:
                return 1 + figure / 2;
            case MASTER:
                return 2 * ofViewer;
            case GRINDER:
                return 0;
            case EDGE:
                return ofGirl + figure / 3;
            default:
                return ofViewer;
        }
    }

    private static int depth(int kind, int figure) {
        int ofViewer = 2 + figure / 4;
        int ofBore = ofViewer + 1;
        switch (kind) {
            case BORE:
                return ofBore;
            case GRINDER:
                return 2 * ofBore;
            case EDGE:
                return 1;
            default:
                return ofViewer;
        }
    }

    /** The people as they are on one night, and what they see and do. */
    private static final class Hill {

        private final int[] kinds = new int[MOST_PEOPLE];
        private final int[] figures = new int[MOST_PEOPLE];
        private final int[] cells = new int[MOST_PEOPLE];
        private final int[] faces = new int[MOST_PEOPLE];
        private final int[] starts = new int[MOST_PEOPLE];
        private int size = 0;
        private int night = 0;
        /** Who started, and who stepped or turned, in the latest night (bits). */
        private int started = 0;
        private int stirred = 0;

        private void become(Hill other) {
            if (other == null) {
                return;
            }
            size = other.size;
            night = other.night;
            started = other.started;
            stirred = other.stirred;
            for (int p = 0; p < size; p++) {
                put(kinds, p, at(other.kinds, p));
                put(figures, p, at(other.figures, p));
                put(cells, p, at(other.cells, p));
                put(faces, p, at(other.faces, p));
                put(starts, p, at(other.starts, p));
            }
        }

        private boolean has(int p) {
            return p >= 0 && p < size;
        }

        private int everybody() {
            return bitOf(size) - 1;
        }

        private int kindOf(int p) {
            return at(kinds, p);
        }

        private int figureOf(int p) {
            return at(figures, p);
        }

        private int cellOf(int p) {
            return at(cells, p);
        }

        private int facesOf(int p) {
            return at(faces, p);
        }

        private int startsOf(int p) {
            return at(starts, p);
        }

        private int reachOf(int p) {
            return reach(at(kinds, p), at(figures, p));
        }

        private int depthOf(int p) {
            return depth(at(kinds, p), at(figures, p));
        }

        private void beOfKind(int p, int kind) {
            put(kinds, p, kind);
        }

        private void beOfFigure(int p, int figure) {
            put(figures, p, figure);
        }

        private void place(int p, int cell) {
            put(cells, p, cell);
        }

        private void face(int p, int way) {
            put(faces, p, way);
        }

        /** The newcomer's number; the caller has seen that there is room. */
        private int join(int kind, int figure, int cell, int way) {
            if (size >= MOST_PEOPLE) {
                return NONE;
            }
            int p = size;
            put(kinds, p, kind);
            put(figures, p, figure);
            put(cells, p, cell);
            put(faces, p, way);
            put(starts, p, 0);
            size++;
            return p;
        }

        private int startsTogether() {
            int sum = 0;
            for (int p = 0; p < size; p++) {
                sum += at(starts, p);
            }
            return sum;
        }

        private int whoIsAt(int cell) {
            for (int p = 0; p < size && p < cells.length; p++) {
                if (cells[p] == cell) {
                    return p;
                }
            }
            return NONE;
        }

        private boolean isFree(int cell) {
            return whoIsAt(cell) == NONE;
        }

        private int cellsApart(int p, int q) {
            int one = at(cells, p);
            int other = at(cells, q);
            return Math.abs(rowOf(one) - rowOf(other)) + Math.abs(columnOf(one) - columnOf(other));
        }

        /** Where one would be by a step, staying too; off the hill if he can't take it. */
        private int cellOfStep(int p, int step) {
            if (step == STAYING) {
                return at(cells, p);
            }
            int cell = cellBeside(at(cells, p), step);
            return isFree(cell) ? cell : OFF_THE_HILL;
        }

        private int nextTo(int p, int way, int farthest) {
            int cell = at(cells, p);
            for (int i = 0; i < farthest; i++) {
                cell = cellBeside(cell, way);
                if (cell == OFF_THE_HILL) {
                    return NONE;
                }
                int who = whoIsAt(cell);
                if (who != NONE) {
                    return who;
                }
            }
            return NONE;
        }

        private int ahead(int p) {
            return nextTo(p, at(faces, p), reachOf(p));
        }

        private int inLens(int p) {
            return nextTo(p, turned(at(faces, p), 2), depthOf(p));
        }

        private int watchers(int p) {
            int bits = 0;
            for (int q = 0; q < size; q++) {
                bits |= ahead(q) == p ? bitOf(q) : 0;
            }
            return bits;
        }

        /** How many have somebody ahead, or else in the lens. */
        private int howManySee(boolean lookingAhead) {
            int many = 0;
            for (int p = 0; p < size; p++) {
                int seen = lookingAhead ? ahead(p) : inLens(p);
                many += seen != NONE ? 1 : 0;
            }
            return many;
        }

        /** Those whom some of these (bits) have ahead or in the lens. */
        private int seenBy(int these) {
            int bits = 0;
            for (int p = 0; p < size; p++) {
                if ((these & bitOf(p)) != 0) {
                    bits |= bitOf(ahead(p)) | bitOf(inLens(p));
                }
            }
            return bits;
        }

        private boolean seesAllWays(int p) {
            for (int way = 0; way < WAYS; way++) {
                if (nextTo(p, way, reachOf(p)) == NONE) {
                    return false;
                }
            }
            return true;
        }

        /** The least faces by which one has somebody ahead and nobody in the lens. */
        private int facesToSeeUnseen(int p) {
            for (int way = 0; way < WAYS; way++) {
                put(faces, p, way);
                if (ahead(p) != NONE && inLens(p) == NONE) {
                    return way;
                }
            }
            return NONE;
        }

        /** The chain of one: how many (0), 1 if one comes again (1), the last new one (2). */
        private int chainOf(int p, int what) {
            int met = 0;
            int many = 0;
            int last = p;
            int who = p;
            for (int i = 0; i < MOST_PEOPLE && who != NONE && (met & bitOf(who)) == 0; i++) {
                met |= bitOf(who);
                many++;
                last = who;
                who = inLens(who);
            }
            if (what == 0) {
                return many;
            }
            return what == 2 ? last : who != NONE ? 1 : 0;
        }

        private boolean hasRoomFor(int n) {
            return n <= MOST_NIGHTS && night + n <= LAST_NIGHT;
        }

        private void pass(int n) {
            for (int i = 0; i < n; i++) {
                nightWithout(NONE);
            }
        }

        /** A night in which one (or nobody) sleeps and so does nothing. */
        private void nightWithout(int sleeper) {
            night++;
            started = 0;
            stirred = 0;
            for (int p = 0; p < size; p++) {
                int seen = p == sleeper ? NONE : inLens(p);
                if (seen != NONE) {
                    started |= bitOf(p);
                    put(starts, p, Math.min(MOST_STARTS, at(starts, p) + 1));
                    stirred |= stirs(p, seen) ? bitOf(p) : 0;
                }
            }
        }

        /** What one does who has started; whether he stepped or turned. */
        private boolean stirs(int p, int seen) {
            switch (at(kinds, p)) {
                case VIEWER:
                    return ahead(seen) == p && turnsBy(p, 2);
                case GIRL:
                    return turnsBy(p, 1);
                case BORE:
                    return stepsTo(p, cellBeside(at(cells, p), turned(at(faces, p), 2)));
                case MASTER:
                    return turnsBy(p, 2);
                case EDGE:
                    return stepsTo(p, cellBeside(at(cells, p), at(faces, p)));
                default:
                    return false;
            }
        }

        private boolean turnsBy(int p, int quarters) {
            put(faces, p, turned(at(faces, p), quarters));
            return true;
        }

        private boolean stepsTo(int p, int cell) {
            if (cell == OFF_THE_HILL || !isFree(cell)) {
                return false;
            }
            put(cells, p, cell);
            return true;
        }
    }

    /** The hills as they were, of which the latest comes back first. */
    private static final class Past {

        private final Hill[] kept = new Hill[MOST_BACK];
        private int size = 0;
        private int nextPlace = 0;

        private Past() {
            for (int i = 0; i < kept.length; i++) {
                kept[i] = new Hill();
            }
        }

        private void forget() {
            size = 0;
        }

        /** The places go round, so that the ninth takes the place of the oldest. */
        private void keep(Hill hill) {
            Hill place = placeAt(nextPlace);
            if (place != null) {
                place.become(hill);
            }
            nextPlace = (nextPlace + 1) % MOST_BACK;
            size = Math.min(MOST_BACK, size + 1);
        }

        private Hill giveBack() {
            if (size < 1) {
                return null;
            }
            nextPlace = (nextPlace + MOST_BACK - 1) % MOST_BACK;
            size--;
            return placeAt(nextPlace);
        }

        private Hill placeAt(int i) {
            return i >= 0 && i < kept.length ? kept[i] : null;
        }
    }

    /** The letters that have come, and what they tell. */
    private static final class Text {

        private final int[] letters = new int[MOST_LETTERS];
        private int size = 0;

        private int append(int letter) {
            put(letters, size, letter);
            size++;
            return size;
        }

        private void forget() {
            size = 0;
        }

        /** The first place at which no hill can go on, the end if something lacks. */
        private int wrongPlace() {
            boolean between = true;
            int digitsDue = 0;
            for (int i = 0; i < size; i++) {
                int letter = at(letters, i);
                if (between) {
                    digitsDue = digitsBehind(letter);
                    if (digitsDue == 0) {
                        return i;
                    }
                    between = false;
                } else if (digitsDue > 0) {
                    if (letter < '0' || letter > '9') {
                        return i;
                    }
                    digitsDue--;
                } else {
                    if (letter != ';') {
                        return i;
                    }
                    between = true;
                }
            }
            return between && size > 0 ? NONE : size;
        }

        /** How many digits stand behind a statement's first letter; 0 if none begins so. */
        private static int digitsBehind(int letter) {
            switch (letter) {
                case 'p':
                    return 5;
                case 'c':
                    return 3;
                case 'f':
                case 'n':
                    return 2;
                default:
                    return 0;
            }
        }

        /** Once nothing lacks, only the first letter of a statement is neither a digit nor its end. */
        private boolean beginsStatement(int place) {
            return digitsBehind(at(letters, place)) > 0;
        }

        /** Whether the statement that begins at a place is as it must be; then it has come. */
        private boolean comesTo(Hill hill, int place) {
            int one = digit(place + 1);
            switch (at(letters, place)) {
                case 'p':
                    return joins(hill, one, digit(place + 2), number(place + 3), digit(place + 5));
                case 'f':
                    return facesSo(hill, one, digit(place + 2));
                case 'c':
                    return changesCell(hill, one, number(place + 2));
                default:
                    int n = number(place + 1);
                    if (n < 1 || !hill.hasRoomFor(n)) {
                        return false;
                    }
                    hill.pass(n);
                    return true;
            }
        }

        private static boolean joins(Hill hill, int kind, int figure, int cell, int way) {
            if (!isKind(kind) || !isCell(cell) || !isWay(way) || hill.size >= MOST_PEOPLE || !hill.isFree(cell)) {
                return false;
            }
            hill.join(kind, figure, cell, way);
            return true;
        }

        private static boolean facesSo(Hill hill, int one, int way) {
            if (!hill.has(one) || !isWay(way)) {
                return false;
            }
            hill.face(one, way);
            return true;
        }

        private static boolean changesCell(Hill hill, int one, int cell) {
            if (!hill.has(one) || !isCell(cell) || !hill.isFree(cell)) {
                return false;
            }
            hill.place(one, cell);
            return true;
        }

        private int digit(int place) {
            return at(letters, place) - '0';
        }

        private int number(int place) {
            return 10 * digit(place) + digit(place + 1);
        }
    }
}
