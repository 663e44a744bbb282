import java.util.Arrays;

/** Promises 26 to 43, each sentence whole: what is told of all, the row, lots, the image, counts, refusals. */
final class WholeOfAll extends Hills {

    private WholeOfAll() {
    }

    static void test(Sentences s) {
        s.whole(26, WholeOfAll::busiest, "BUSIEST: the one whom most WATCH, of several the least; -9; how many.",
            "BUSIEST (what 0; -9), how many (1; -9). -2.");
        s.whole(27, WholeOfAll::twos, "FACE TO FACE: how many twos WATCH each other.", "BACK TO BACK: how many twos have each other IN THE LENS.",
            "FACE TO FACE (what 0), BACK TO BACK (1). -2.");
        s.whole(28, WholeOfAll::nearest, "NEAREST: the two (10 the lesser and the other) with fewest CELLS apart (rows and columns together), of"
            + " several the first; -9; how many.", "NEAREST (what 0; -9), how many (1; -9). -2.");
        s.whole(29, d -> {
            d.is("lines()", eachKind().lines(), 5);
            d.is("a night on", eachKind(1).lines(), 5);
            SeenFromBehind x = eachKind();
            x.stands(0, 30);
            x.stands(2, 11);
            d.is("in one row, two columns", x.lines(), 3);
        }, "LINES: in how many rows and columns two or more are.", "LINES.");
        s.whole(30, d -> {
            int[] want = {63, 63 - 4, 63 - 4 - 1, 63 - 4 - 1 - 2};
            for (int n = 0; n < want.length; n++) {
                d.is("hidden() behind " + n, eachKind(n).hidden(), want[n]);
            }
        }, "HIDDEN: those (bits) whom nobody would WATCH, were everybody's REACH 5.", "HIDDEN (bits).");
        s.whole(31, d -> {
            d.is("the MASTER", eachKind().longest(), 3);
            d.is("before him", hillOf(GRINDER, 9, 0, UP, VIEWER, 9, 1, UP, GIRL, 0, 2, UP, EDGE, 2, 3, UP, BORE, 7, 4, UP).longest(), 2);
        }, "LONGEST: the one with the greatest REACH, of several the least; -9.", "LONGEST; -9.");
        s.whole(32, WholeOfAll::walks, "NIGHTWALK: how many CELLS one steps in n NIGHTS (0 .. 60) in all (each step counted). TURNED: how often"
            + " one turns in these (to other FACES).", "NIGHTWALK (what 0), TURNED (1). -1; -4; -6 60; -2.");
        s.whole(33, WholeOfAll::meets, "MEETS: the first n (0 .. 60) behind which two are in CELLS beside each other; -9.",
            "MEETS; -9. -1 either (one twice).");
        s.whole(34, WholeOfAll::leave, "LEAVE: who WATCHES a told one (bits), were another one not there.", "LEAVE (bits). -1 either (one twice).");
        s.whole(35, WholeOfAll::most, "MOST: the free CELL a told one would be WATCHED at by most, of several the least; how many.",
            "MOST: the CELL (what 0), how many (1). -1; -2.");
        s.whole(36, WholeOfAll::quiet, "QUIET: 1 if n NIGHTS go by without a START, else 0.", "QUIET. -4; -6 60.");
        s.whole(38, WholeOfAll::judge, "A ROW of numbers (0 .. 99; 12 at most): JUDGED: CELLS of PEOPLE 0, 1, ..: the first that is not so (nobody"
            + " there, too); -9.", "JUDGED; -9 (whichever it answers, the ROW has none then).");
        s.whole(40, WholeOfAll::lots, "LOTS with a seed z: n times (1 .. 20), each from now: FACES of each a DRAW below 4 (by numbers), then 10"
            + " NIGHTS: all STARTS more together; how many twos WATCH (one the other, each way counted) then. DRAWS: z becomes z times"
            + " 1103515245 plus 12345 (an int, wrapping); a DRAW below n is (z without its sign's bit, over 65536, cut) modulo n.",
            "LOTS: STARTS (what 0), twos (1). -4; -6 20; -2.");
        s.whole(42, WholeOfAll::image, "THE IMAGE: all that there is of I, but it, letters, the ROW, REFUSALS.", "It is RESTORED: NIGHT. -3 there is none.");
        s.whole(43, WholeOfAll::counts, "0 PEOPLE, 1 NIGHT, 2 all STARTS, 3 how many have somebody AHEAD, 4 IN THE LENS, 5 letters, 6 in the ROW, 7"
            + " what can be TAKEN BACK, 11 .. 16 REFUSALS -1 .. -6. -9 for another what.");
        s.whole(43, WholeOfAll::refusals, "REFUSALS (the call answers the number, the first that fits in the order in which it tells them; nothing"
            + " changes but how many there were): -1 NOBODY: no such one, CELL, FACES, one twice. -2 OTHER: what, KIND. -3 STATE: it is not as"
            + " told. -4 BELOW: a number below the least. -6 ROOM: a number above the greatest, no room. Of longs 4000000000000000000 less them"
            + " (-1 as 4000000000000000001).");
    }

    private static void busiest(Due d) {
        int[][] want = {{0, 0}, {2, 1}, {0, 1}, {0, 1}};
        for (int n = 0; n < want.length; n++) {
            d.is("busiest(0) behind " + n, eachKind(n).busiest(0), want[n][0]);
            d.is("busiest(1) behind " + n, eachKind(n).busiest(1), want[n][1]);
        }
        SeenFromBehind x = eachKind(3);
        // The VIEWER above the GIRL looks down at her; the EDGE comes to her right and looks at her, too.
        x.stands(5, 19);
        x.turns(5, LEFT);
        d.is("two WATCH the GIRL", x.busiest(0), 1);
        d.is("how many", x.busiest(1), 2);
    }

    private static void twos(Due d) {
        int[][] want = {{0, 3}, {0, 0}, {0, 0}, {1, 0}};
        for (int n = 0; n < want.length; n++) {
            d.is("twos(0) behind " + n, eachKind(n).twos(0), want[n][0]);
            d.is("twos(1) behind " + n, eachKind(n).twos(1), want[n][1]);
        }
    }

    private static void nearest(Due d) {
        SeenFromBehind x = eachKind();
        d.is("nearest(0)", x.nearest(0), 1);
        d.is("nearest(1)", x.nearest(1), 1);
        x.stands(0, 35);
        d.is("the last two", x.nearest(0), 45);
        d.is("how many", x.nearest(1), 1);
        x.stands(4, 0);
        // 1 and 3 are two apart, 2 and 3, 3 and 5, too.
        d.is("the first of three twos", x.nearest(0), 13);
        d.is("how many", x.nearest(1), 2);
    }

    private static void walks(Due d) {
        SeenFromBehind x = eachKind();
        ofEach(d, "NIGHTWALK of 1", p -> x.walks(p, 1, 0), 0, 0, 1, 0, 0, 1);
        ofEach(d, "NIGHTWALK of 4", p -> x.walks(p, 4, 0), 0, 0, 1, 0, 0, 1);
        ofEach(d, "TURNED in 1", p -> x.walks(p, 1, 1), 0, 1, 0, 1, 0, 0);
        ofEach(d, "TURNED in 2", p -> x.walks(p, 2, 1), 0, 2, 0, 1, 0, 0);
        ofEach(d, "TURNED in 4", p -> x.walks(p, 4, 1), 1, 2, 0, 1, 0, 0);
        stateIs(d, x, 2, 8, UP, 0);
        // The first sees five deep and steps three times; the other, who sees three deep, once, for then they stand back to back.
        SeenFromBehind bores = hillOf(BORE, 9, 0, UP, BORE, 0, 30, DOWN);
        ofEach(d, "NIGHTWALK of two BOREs", p -> bores.walks(p, 60, 0), 3, 1);
    }

    private static void meets(Due d) {
        SeenFromBehind x = eachKind();
        int[][] want = {{-1, 0, -9, -9, -9, -9}, {0, -1, -9, -9, -9, -9}, {-9, -9, -1, 1, -9, -9}, {-9, -9, 1, -1, -9, -9},
            {-9, -9, -9, -9, -1, 0}, {-9, -9, -9, -9, 0, -1}};
        for (int p = 0; p < 6; p++) {
            int one = p;
            ofEach(d, "meets " + p, other -> x.meets(one, other), Arrays.stream(want[p]).asLongStream().toArray());
        }
    }

    private static void leave(Due d) {
        SeenFromBehind x = eachKind(1);
        x.stands(5, 2);
        // The MASTER looks up at the BORE, beyond whom the EDGE stands now and looks down at him.
        ofEach(d, "who WATCHES the EDGE without another one", p -> x.leave(5, p), 0, 0, 8, 0, 0, -1);
        ofEach(d, "who WATCHES the BORE without another one", p -> x.leave(2, p), 40, 40, -1, 32, 40, 8);
        d.is("all are there", x.count(0), 6);
    }

    private static void most(Due d) {
        SeenFromBehind x = eachKind();
        d.is("the CELL", x.most(4, 0), 0);
        d.is("how many", x.most(4, 1), 1);
        x.stands(0, 4);
        x.turns(0, LEFT);
        // At 2 he would be WATCHED by the BORE below and by the VIEWER to the right; at 1 and 3 by the VIEWER alone.
        d.is("the CELL where two look", x.most(4, 0), 2);
        d.is("how many", x.most(4, 1), 2);
    }

    private static void quiet(Due d) {
        SeenFromBehind x = eachKind();
        d.is("quiet(0)", x.quiet(0), 1);
        d.is("quiet(1)", x.quiet(1), 0);
        d.is("quiet(60)", x.quiet(60), 0);
        SeenFromBehind girl = withGrinderBehind(GIRL);
        for (int n = 1; n <= 60; n++) {
            d.is("a START in the first of " + n, girl.quiet(n), 0);
        }
        girl.nights(1);
        d.is("when she has turned", girl.quiet(60), 1);
    }

    private static void judge(Due d) {
        SeenFromBehind x = eachKind();
        tellRow(x, 12, 18, 8, 20, 16, 22);
        d.is("so", x.judge(), -9);
        d.is("the ROW has none then", x.count(6), 0);
        tellRow(x, 12, 18, 8, 20, 16, 22, 0);
        d.is("a seventh one", x.judge(), 6);
        d.is("the ROW has none then", x.count(6), 0);
        x.nights(1);
        tellRow(x, 12, 18, 8, 20, 16, 22);
        d.is("the BORE has stepped", x.judge(), 2);
        tellRow(x, 12, 18, 14, 20, 16, 22);
        d.is("the EDGE, too", x.judge(), 5);
        tellRow(x, 12, 18, 14, 20, 16, 28);
        d.is("so, a night on", x.judge(), -9);
    }

    private static void lots(Due d) {
        // In one column 0 and 1, in one row 1 and 2: who has whom in the lens is told by his FACES alone.
        SeenFromBehind x = hillOf(GRINDER, 0, 0, LEFT, GRINDER, 0, 30, LEFT, GRINDER, 0, 35, LEFT);
        SeenFromBehind lookers = hillOf(MASTER, 0, 0, LEFT, MASTER, 0, 18, LEFT, MASTER, 0, 21, LEFT);
        for (int z : new int[] {0, 1, -1, 2026, MIN, MAX}) {
            int[] draws = draws(z, 60);
            int starts = 0;
            int twos = 0;
            for (int n = 1; n <= 20; n++) {
                int first = draws[3 * n - 3];
                int second = draws[3 * n - 2];
                int third = draws[3 * n - 1];
                starts += 10 * ((first == UP ? 1 : 0) + (second == DOWN || second == LEFT ? 1 : 0) + (third == RIGHT ? 1 : 0));
                twos += (first == DOWN ? 1 : 0) + (second == UP || second == RIGHT ? 1 : 0) + (third == LEFT ? 1 : 0);
                d.is("lots(" + n + ", " + z + ", 0)", x.lots(n, z, 0), starts);
                d.is("lots(" + n + ", " + z + ", 1)", lookers.lots(n, z, 1), twos);
            }
        }
        ofEach(d, "FACES", p -> x.personOf(p, 3), LEFT, LEFT, LEFT);
        ofEach(d, "STARTS", p -> x.personOf(p, 4), 0, 0, 0);
        d.is("NIGHT", x.count(1), 0);
    }

    private static void image(Due d) {
        SeenFromBehind x = eachKind(2);
        feedAll(x, "f00");
        x.row(12);
        x.turns(9, UP);
        d.is("image()", x.image(), 2);
        x.nights(30);
        x.turns(1, DOWN);
        x.stands(4, 35);
        x.feed(';');
        x.row(18);
        x.turns(9, UP);
        d.is("restore()", x.restore(), 2);
        for (int p = 0; p < 6; p++) {
            int[] one = EACH_KIND_BY_NIGHT[2][p];
            d.is("KIND", x.personOf(p, 0), p);
            stateIs(d, x, p, one[0], one[1], one[2]);
        }
        d.is("NIGHT", x.count(1), 2);
        d.is("letters", x.count(5), 4);
        d.is("in the ROW", x.count(6), 2);
        d.is("refused with -1", x.count(11), 2);
        d.is("hill()", x.hill(), 1);
        d.is("judge()", x.judge(), -9);
        d.is("it is there still", x.restore(), 2);
    }

    private static void counts(Due d) {
        int[][] want = {{6, 0, 0, 0, 6}, {6, 1, 6, 1, 4}, {6, 2, 10, 2, 3}, {6, 3, 13, 3, 2}};
        for (int n = 0; n < want.length; n++) {
            SeenFromBehind x = eachKind(n);
            feedAll(x, "f00;");
            tellRow(x, 1, 2, 3);
            for (int what = 0; what < 5; what++) {
                d.is("count(" + what + ") behind " + n, x.count(what), want[n][what]);
            }
            d.is("letters", x.count(5), 4);
            d.is("in the ROW", x.count(6), 3);
            d.is("what can be TAKEN BACK", x.count(7), n > 0 ? 1 : 0);
            refused(d, x, 0, 0, 0, 0, 0, 0);
        }
        // Two who have the same one AHEAD, or IN THE LENS, are two.
        d.is("two WATCH one", hillOf(GRINDER, 0, 14, UP, VIEWER, 0, 15, LEFT, VIEWER, 0, 8, DOWN).count(3), 2);
        d.is("two have one in the lens", hillOf(GRINDER, 0, 14, UP, VIEWER, 0, 15, RIGHT, VIEWER, 0, 8, UP).count(4), 2);
    }

    private static void refusals(Due d) {
        SeenFromBehind x = eachKind();
        d.is("no such one", x.personOf(6, 0), -1);
        d.is("no such CELL", x.stands(0, 36), -1);
        d.is("no such FACES", x.turns(0, 4), -1);
        d.is("one twice", x.leave(3, 3), -1);
        refused(d, x, 4, 0, 0, 0, 0, 0);
        d.is("no such what", x.twos(2), -2);
        d.is("no such KIND", x.post(6), -2);
        refused(d, x, 4, 2, 0, 0, 0, 0);
        d.is("no image", x.restore(), -3);
        d.is("six there are", x.post(0), -3);
        d.is("where he is", x.stands(0, 12), -3);
        refused(d, x, 4, 2, 3, 0, 0, 0);
        d.is("below the least", x.knows(0, -1), -4);
        d.is("below the least", x.lots(0, 0, 0), -4);
        refused(d, x, 4, 2, 3, 2, 0, 0);
        d.is("above the greatest", x.row(100), -6);
        d.is("no room", x.person(0, 0, 0, 0), -6);
        refused(d, x, 4, 2, 3, 2, 0, 2);
        d.is("of longs", x.slept(6, 0, 0, 2, 0), 4000000000000000001L);
        d.is("of longs", x.slept(0, 0, 0, 1, 0), 4000000000000000004L);
        d.is("the first that fits", x.walks(6, -1, 2), -1);
        d.is("the first that fits", x.walks(0, -1, 2), -4);
        refused(d, x, 6, 2, 3, 4, 0, 2);
        for (int p = 0; p < 6; p++) {
            int[] one = EACH_KIND_BY_NIGHT[0][p];
            stateIs(d, x, p, one[0], one[1], one[2]);
        }
    }
}
