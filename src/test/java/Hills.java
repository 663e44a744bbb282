import java.util.function.IntFunction;
import java.util.function.IntToLongFunction;
import java.util.function.Supplier;
import java.util.function.ToLongFunction;

/** Hills that the tests begin with, and what they look at. */
abstract class Hills {

    static final int VIEWER = 0;
    static final int GIRL = 1;
    static final int BORE = 2;
    static final int MASTER = 3;
    static final int GRINDER = 4;
    static final int EDGE = 5;

    static final int UP = 0;
    static final int RIGHT = 1;
    static final int DOWN = 2;
    static final int LEFT = 3;

    static final int MIN = Integer.MIN_VALUE;
    static final int MAX = Integer.MAX_VALUE;
    static final long LONG_REFUSAL = 4000000000000000000L;

    /** By KIND and FIGURE. */
    static final int[][] REACH = {
        {3, 3, 3, 3, 3, 3, 3, 3, 3, 3},
        {4, 4, 4, 4, 4, 4, 4, 4, 4, 4},
        {1, 1, 2, 2, 3, 3, 4, 4, 5, 5},
        {6, 6, 6, 6, 6, 6, 6, 6, 6, 6},
        {0, 0, 0, 0, 0, 0, 0, 0, 0, 0},
        {4, 4, 4, 5, 5, 5, 6, 6, 6, 7},
    };

    /** By KIND and FIGURE. */
    static final int[][] DEPTH = {
        {2, 2, 2, 2, 3, 3, 3, 3, 4, 4},
        {2, 2, 2, 2, 3, 3, 3, 3, 4, 4},
        {3, 3, 3, 3, 4, 4, 4, 4, 5, 5},
        {2, 2, 2, 2, 3, 3, 3, 3, 4, 4},
        {6, 6, 6, 6, 8, 8, 8, 8, 10, 10},
        {1, 1, 1, 1, 1, 1, 1, 1, 1, 1},
    };

    /** How far one cell is from the next one, each way. */
    private static final int[] AWAY = {-6, 1, 6, -1};

    static int opposite(int way) {
        return (way + 2) % 4;
    }

    /** The cell so many cells away, which the caller knows to be on the hill. */
    static int cellFrom(int cell, int way, int far) {
        return cell + far * AWAY[way];
    }

    /** A hill with people told by KIND, FIGURE, CELL and FACES each. */
    static SeenFromBehind hillOf(int... people) {
        SeenFromBehind x = new SeenFromBehind();
        for (int i = 0; i < people.length; i += 4) {
            if (x.person(people[i], people[i + 1], people[i + 2], people[i + 3]) < 0) {
                throw new IllegalStateException("no such one: " + i / 4);
            }
        }
        return x;
    }

    static void feedAll(SeenFromBehind x, String text) {
        for (int i = 0; i < text.length(); i++) {
            x.feed(text.charAt(i));
        }
    }

    static int tell(SeenFromBehind x, String text) {
        feedAll(x, text);
        return x.hill();
    }

    static void told(Due d, SeenFromBehind x, String text, int want) {
        d.is("hill() of \"" + text + "\"", tell(x, text), want);
    }

    static void tellRow(SeenFromBehind x, int... numbers) {
        x.clear();
        for (int v : numbers) {
            x.row(v);
        }
    }

    /** Lets so many nights go by, by calls of 60 at most. */
    static SeenFromBehind after(SeenFromBehind x, int nights) {
        for (int left = nights; left > 0; left -= 60) {
            x.nights(Math.min(60, left));
        }
        return x;
    }

    /** How many refusals there were: -1, -2, -3, -4, -5, -6. */
    static void refused(Due d, SeenFromBehind x, int... want) {
        for (int i = 0; i < 6; i++) {
            d.is("count(" + (11 + i) + ")", x.count(11 + i), want[i]);
        }
    }

    static void stateIs(Due d, SeenFromBehind x, int person, int cell, int faces, int starts) {
        d.is("personOf(" + person + ", 2)", x.personOf(person, 2), cell);
        d.is("personOf(" + person + ", 3)", x.personOf(person, 3), faces);
        d.is("personOf(" + person + ", 4)", x.personOf(person, 4), starts);
    }

    /** One who looks ahead at the next one's back, and is looked at in the lens: 0 at 14, 1 behind him at 20. */
    static SeenFromBehind twoViewers() {
        return hillOf(VIEWER, 0, 14, UP, VIEWER, 0, 20, UP);
    }

    /** A kind at 14 that looks up, and a GRINDER behind him, who sees nobody. */
    static SeenFromBehind withGrinderBehind(int kind) {
        return hillOf(kind, 0, 14, UP, GRINDER, 0, 20, RIGHT);
    }

    /** So many who see nobody and do nothing, in the first row, for others to have the numbers behind theirs. */
    static SeenFromBehind withIdle(int many) {
        SeenFromBehind x = new SeenFromBehind();
        for (int i = 0; i < many; i++) {
            x.person(GRINDER, 0, i, DOWN);
        }
        return x;
    }

    /** A MASTER who turns each night, between two who do nothing and see nobody. */
    static SeenFromBehind masterBetween() {
        return hillOf(MASTER, 0, 14, UP, GRINDER, 0, 8, RIGHT, GRINDER, 0, 20, RIGHT);
    }

    /** A BORE who steps back for two nights, till he stands before the other one. */
    static SeenFromBehind steppingBore() {
        return hillOf(BORE, 0, 8, UP, GRINDER, 0, 26, RIGHT);
    }

    /**
     * Of all hills that a long search met, the one on which it takes longest till all stands still, and till two meet. None
     * took near to 60 NIGHTS: steps soon come to an end, and what turns then turns for ever or for some nights only.
     */
    static SeenFromBehind longRestless() {
        return hillOf(BORE, 6, 3, UP, BORE, 4, 24, LEFT, BORE, 9, 4, UP, BORE, 7, 5, UP, BORE, 9, 30, LEFT, EDGE, 0, 11, DOWN);
    }

    /** One of each KIND, by twos who stand back to back: 0 and 1, 2 and 3, 4 and 5. */
    static SeenFromBehind eachKind() {
        return hillOf(VIEWER, 0, 12, UP, GIRL, 0, 18, DOWN, BORE, 0, 8, UP, MASTER, 0, 20, DOWN, GRINDER, 0, 16, UP, EDGE, 0, 22, DOWN);
    }

    /** CELL, FACES, STARTS of each KIND, behind 0, 1, .. 4 NIGHTS, as the document's words have it. */
    static final int[][][] EACH_KIND_BY_NIGHT = {
        {{12, UP, 0}, {18, DOWN, 0}, {8, UP, 0}, {20, DOWN, 0}, {16, UP, 0}, {22, DOWN, 0}},
        // All start. The VIEWER is not WATCHED; the GIRL turns; the BORE steps back, so that the MASTER sees him closer, and turns.
        {{12, UP, 1}, {18, LEFT, 1}, {14, UP, 1}, {20, UP, 1}, {16, UP, 1}, {28, DOWN, 1}},
        // The GIRL has the MASTER in the lens now. The BORE can't step. Nobody is behind the MASTER, nor close behind the EDGE.
        {{12, UP, 2}, {18, UP, 2}, {14, UP, 2}, {20, UP, 1}, {16, UP, 2}, {28, DOWN, 1}},
        // Now the GIRL WATCHES the VIEWER, and he turns.
        {{12, DOWN, 3}, {18, UP, 2}, {14, UP, 3}, {20, UP, 1}, {16, UP, 3}, {28, DOWN, 1}},
        {{12, DOWN, 3}, {18, UP, 2}, {14, UP, 4}, {20, UP, 1}, {16, UP, 4}, {28, DOWN, 1}},
    };

    /** The same, so many nights on. */
    static SeenFromBehind eachKind(int nights) {
        return after(eachKind(), nights);
    }

    /** Asks something of each of six. */
    static void ofEach(Due d, String call, IntToLongFunction asked, long... want) {
        for (int p = 0; p < want.length; p++) {
            d.is(call + " of " + p, asked.applyAsLong(p), want[p]);
        }
    }

    /** The draws below 4 from a seed on, reckoned with longs. */
    static int[] draws(int z, int many) {
        int[] draws = new int[many];
        long seed = z;
        for (int i = 0; i < many; i++) {
            seed = seed * 1103515245L + 12345L & 0xffffffffL;
            draws[i] = (int) ((seed & 0x7fffffffL) / 65536 % 4);
        }
        return draws;
    }

    /** Three people, and some of all else there can be: nights, an image, refusals, changes, letters, a row. */
    static SeenFromBehind lived() {
        return lived(hillOf(GIRL, 3, 14, UP, BORE, 6, 20, LEFT, MASTER, 1, 21, DOWN));
    }

    /** The same with six people. */
    static SeenFromBehind livedInCrowd() {
        return lived(hillOf(GIRL, 3, 14, UP, BORE, 6, 20, LEFT, MASTER, 1, 21, DOWN, GRINDER, 9, 35, LEFT, EDGE, 5, 2, UP,
            VIEWER, 8, 0, RIGHT));
    }

    private static SeenFromBehind lived(SeenFromBehind x) {
        x.nights(2);
        x.image();
        x.turns(9, 0);
        x.twos(9);
        x.stands(0, x.personOf(0, 2));
        x.nights(0);
        x.nights(61);
        x.turns(0, LEFT);
        x.stands(1, 30);
        x.nights(3);
        feedAll(x, "f12;n02;");
        for (int p = 0; p < x.count(0); p++) {
            x.row(x.personOf(p, 2));
        }
        return x;
    }

    /** A refused call answers its number, counts it, and changes nothing else of two like objects. */
    static void refuses(Due d, Supplier<SeenFromBehind> made, String call, ToLongFunction<SeenFromBehind> asked, long answer) {
        SeenFromBehind x = made.get();
        SeenFromBehind like = made.get();
        d.is(call, asked.applyAsLong(x), answer);
        long number = answer < 0 ? -answer : answer - LONG_REFUSAL;
        for (int i = 1; i <= 6; i++) {
            d.is("count(" + (10 + i) + ") behind " + call, x.count(10 + i), like.count(10 + i) + (i == number ? 1 : 0));
        }
        d.holds(call + " changed something else", tellingOf(x).equals(tellingOf(like)));
    }

    /** A call that but asks leaves two like objects alike. */
    static void onlyAsks(Due d, Supplier<SeenFromBehind> made, String call, ToLongFunction<SeenFromBehind> asked) {
        SeenFromBehind x = made.get();
        SeenFromBehind like = made.get();
        long answer = asked.applyAsLong(x);
        d.holds(call + " was refused", answer >= 0 && answer < LONG_REFUSAL || answer == -9);
        for (int i = 1; i <= 6; i++) {
            d.is("count(" + (10 + i) + ") behind " + call, x.count(10 + i), like.count(10 + i));
        }
        d.holds(call + " changed something", tellingOf(x).equals(tellingOf(like)));
    }

    /** Of three people, and of six, the first and the last; one below and one above are refused with -1. */
    static void onePerson(Due d, String name, IntFunction<ToLongFunction<SeenFromBehind>> call) {
        for (int outside : new int[] {MIN, -1, 3, 6, MAX}) {
            refuses(d, Hills::lived, name + ", one " + outside, call.apply(outside), -1);
        }
        onlyAsks(d, Hills::lived, name + ", one 0", call.apply(0));
        onlyAsks(d, Hills::lived, name + ", one 2", call.apply(2));
        onlyAsks(d, Hills::livedInCrowd, name + ", one 5", call.apply(5));
        refuses(d, Hills::livedInCrowd, name + ", one 6", call.apply(6), -1);
        refuses(d, SeenFromBehind::new, name + ", one 0 of none", call.apply(0), -1);
    }

    /** The numbers from the least to the greatest are answered; one below and one above are refused. */
    static void range(Due d, String name, int least, long below, int greatest, long above, IntFunction<ToLongFunction<SeenFromBehind>> call) {
        for (int inside : new int[] {least, least + 1, greatest - 1, greatest}) {
            onlyAsks(d, Hills::lived, name + " " + inside, call.apply(inside));
        }
        refuses(d, Hills::lived, name + " " + (least - 1), call.apply(least - 1), below);
        refuses(d, Hills::lived, name + " " + MIN, call.apply(MIN), below);
        refuses(d, Hills::lived, name + " " + (greatest + 1), call.apply(greatest + 1), above);
        refuses(d, Hills::lived, name + " " + MAX, call.apply(MAX), above);
    }

    /** All that can be told of an object but its refusals; it is used up then. */
    static String tellingOf(SeenFromBehind x) {
        StringBuilder text = new StringBuilder();
        for (int what = 0; what <= 7; what++) {
            text.append(x.count(what)).append(' ');
        }
        for (int p = 0; p < x.count(0); p++) {
            for (int what = 0; what < 3; what++) {
                text.append(x.which(p, what)).append(' ');
            }
        }
        tellPeople(text, x, 0);
        text.append("row ").append(x.judge());
        for (int left = x.count(7); left > 0; left--) {
            text.append(" back ").append(x.back());
            tellPeople(text, x, 2);
        }
        text.append(" image ").append(x.restore());
        tellPeople(text, x, 0);
        text.append(" hill ").append(x.hill());
        tellPeople(text, x, 0);
        return text.toString();
    }

    /** All that can be asked of an object without changing it. */
    static String answersOf(SeenFromBehind x) {
        StringBuilder text = new StringBuilder();
        for (int what = 0; what <= 6; what++) {
            text.append(' ').append(x.count(what));
        }
        for (int i = 0; i < 2; i++) {
            text.append(' ').append(x.busiest(i)).append(' ').append(x.twos(i)).append(' ').append(x.nearest(i));
            text.append(' ').append(x.lots(3, 7, i)).append(' ').append(x.allStarts(i)).append(' ').append(x.quiet(i));
        }
        text.append(' ').append(x.unseen()).append(' ').append(x.deepest()).append(' ').append(x.turnAll());
        text.append(' ').append(x.lines()).append(' ').append(x.hidden()).append(' ').append(x.longest());
        text.append(' ').append(x.still());
        for (int kind = 0; kind <= 5; kind++) {
            text.append(' ').append(x.post(kind));
        }
        for (int p = 0; p < x.count(0); p++) {
            tellOne(text, x, p);
        }
        return text.toString();
    }

    private static void tellOne(StringBuilder text, SeenFromBehind x, int p) {
        for (int what = 0; what <= 5; what++) {
            text.append(' ').append(x.personOf(p, what)).append(' ').append(x.behind(p, 0, what)).append(' ').append(x.behind(p, 2, what));
        }
        for (int what = 0; what <= 1; what++) {
            text.append(' ').append(x.first(p, what)).append(' ').append(x.safe(p, what)).append(' ').append(x.alone(p, what));
            text.append(' ').append(x.most(p, what)).append(' ').append(x.walks(p, 4, what)).append(' ').append(x.chain(p, what));
            text.append(' ').append(x.slept(p, UP, 3, 3, what)).append(' ').append(x.knows(p, what + 1));
        }
        text.append(' ').append(x.bestStep(p));
        for (int other = 0; other < x.count(0); other++) {
            if (other != p) {
                text.append(' ').append(x.two(p, other)).append(' ').append(x.meets(p, other)).append(' ').append(x.leave(p, other));
            }
        }
    }

    private static void tellPeople(StringBuilder text, SeenFromBehind x, int firstWhat) {
        text.append(" night ").append(x.count(1));
        for (int p = 0; p < x.count(0); p++) {
            text.append(" one");
            for (int what = firstWhat; what <= 4; what++) {
                text.append(' ').append(x.personOf(p, what));
            }
        }
    }
}
