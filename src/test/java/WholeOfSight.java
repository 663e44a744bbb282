import java.util.Arrays;

/** Promises 10 to 25, each sentence whole: what one sees, in mind. */
final class WholeOfSight extends Hills {

    /** AHEAD, IN THE LENS, who WATCHES him: of each KIND, behind 0, 1, 2, 3 NIGHTS. */
    private static final int[][][] SEEN_BY_NIGHT = {
        {{-9, 1, 0}, {-9, 0, 0}, {-9, 3, 0}, {-9, 2, 0}, {-9, 5, 0}, {-9, 4, 0}},
        {{-9, 1, 0}, {-9, 3, 0}, {-9, 3, 8}, {2, -9, 0}, {-9, 5, 0}, {-9, -9, 0}},
        {{-9, 1, 2}, {0, -9, 0}, {-9, 3, 8}, {2, -9, 0}, {-9, 5, 0}, {-9, -9, 0}},
        {{1, -9, 2}, {0, -9, 1}, {-9, 3, 8}, {2, -9, 0}, {-9, 5, 0}, {-9, -9, 0}},
    };

    private WholeOfSight() {
    }

    static void test(Sentences s) {
        s.whole(10, WholeOfSight::faces, "CELLS 0 .. 35: row CELL by 6, column CELL modulo 6. FACES: 0 up, 1 right, 2 down, 3 left.");
        s.whole(10, WholeOfSight::next, "AHEAD of one: the next one straight the way he FACES, no more than REACH CELLS away; nobody. IN THE"
            + " LENS: the next one straight the other way, no more than DEPTH away; nobody. One WATCHES another one who is AHEAD of him.");
        s.whole(10, WholeOfSight::behind, "In mind, n NIGHTS on (0 .. 60): CELL, FACES, STARTS of one, who is AHEAD, IN THE LENS (-9 nobody), who"
            + " WATCHES him (bits); all STARTS together.");
        s.whole(11, d -> {
            SeenFromBehind x = eachKind();
            int[] want = {0, 6, 10, 13, 15, 17};
            for (int n = 0; n < want.length; n++) {
                d.is("allStarts(" + n + ")", x.allStarts(n), want[n]);
            }
            d.is("NIGHT", x.count(1), 0);
            d.is("all STARTS now", x.count(2), 0);
        }, "all STARTS together.", "n NIGHTS on all STARTS. -4; -6 60.");
        s.whole(12, WholeOfSight::first, "WATCHED: the first n (0 .. 60) behind which somebody WATCHES one; -9; SHOWN: the first behind which"
            + " somebody is IN THE LENS; -9.", "WATCHED (what 0), SHOWN (1); -9. -1; -2.");
        s.whole(13, d -> {
            for (int n = 0; n <= 4; n++) {
                d.is("still() behind " + n, eachKind(n).still(), Math.max(0, 3 - n));
            }
        }, "STILL: the first n (0 .. 60) behind which a NIGHT moves and turns nobody; -9.", "STILL; -9.");
        s.whole(14, d -> {
            int[] want = {0, 1 + 16, 16, 16};
            for (int n = 0; n < want.length; n++) {
                d.is("unseen() behind " + n, eachKind(n).unseen(), want[n]);
            }
        }, "UNSEEN: those (bits) whom nobody WATCHES and nobody has IN THE LENS.", "UNSEEN (bits).");
        s.whole(15, WholeOfSight::chain, "CHAIN of one: he, who is IN THE LENS of him, in that one's, .. till nobody is or one comes again: how"
            + " many; 1 if one comes again, else 0; the last new one.", "CHAIN: how many (what 0), 1 a ring (1), the last (2). -1; -2.");
        s.whole(16, WholeOfSight::deepest, "DEEPEST: the one with the longest CHAIN, of several the least; -9.", "DEEPEST; -9.");
        s.whole(17, WholeOfSight::knows, "KNOWS of one to a depth d (0 .. 6): bits of those he comes to by at most d times going on to who is"
            + " AHEAD or IN THE LENS (he himself, too).", "KNOWS (bits). -1; -4; -6 6.");
        s.whole(18, WholeOfSight::safe, "SAFE: FACES (bits 0 .. 3) by which nobody is IN THE LENS of one; BEST FACES: by which first somebody is"
            + " AHEAD and nobody IN THE LENS, of several the least; -9.", "SAFE (what 0, bits), BEST FACES (1; -9). -1; -2.");
        s.whole(19, WholeOfSight::alone, "ALONE: free CELLS at which nobody would WATCH one, and (FACING as now) nobody be IN THE LENS: how many;"
            + " the least; -9.", "ALONE: how many (what 0), the least (1; -9). -1; -2.");
        s.whole(20, WholeOfSight::turnAll, "TURN: the fewest PEOPLE to be turned (each to any other FACES) so that nobody WATCHES anybody: how"
            + " many; -9 some one sees somebody all four ways.", "TURN; -9.");
        s.whole(21, WholeOfSight::post, "POST: a newcomer of a KIND (FIGURE 5): the free CELL and FACES (10 the CELL and the FACES) at which"
            + " somebody is AHEAD of him, nobody IN THE LENS and nobody WATCHES him, of several the least; -9.", "POST; -9. -2; -3 6 there are.");
        s.whole(22, WholeOfSight::which, "WHICH: a ROW tells FACES of one behind 0, 1, .. NIGHTS: KINDS (bits) by which it is so; FIGURES (bits 0"
            + " .. 9); FACES at first (bits 0 .. 3).", "WHICH by the ROW (it stays): KINDS (what 0), FIGURES (1), FACES at first (2), bits. -1; -2.");
        s.whole(23, WholeOfSight::bestStep, "BEST STEP of one: staying (told as 4) or a CELL up, right, down, left (0 .. 3; free, on the hill) at"
            + " which fewest WATCH him, of several the least (staying last).", "BEST STEP. -1.");
        s.whole(24, WholeOfSight::two, "TWO: one chooses FACES, another one stays (4) or steps (0 .. 3 as above): the first would have the other"
            + " AHEAD or IN THE LENS, that one not: the first pair (10 the first's and the other's) by which neither has better by another"
            + " choice alone; -9.", "TWO; -9. -1 either (one twice).");
        s.whole(25, WholeOfSight::slept, "SLEPT: in each of n NIGHTS (0 .. 8), by itself, with odds 1 in t (2 .. 20) one sleeps (he does nothing"
            + " then): how likely he FACES f behind these: a fraction.", "(Fractions are told in lowest terms; 0 as 0 over 1.)",
            "SLEPT; part 0 above, 1 below the line. Refused as told: -1 (one, FACES); -4 (n below 0, t below 2); -6 (8; 20); -2.");
    }

    private static void faces(Due d) {
        SeenFromBehind x = hillOf(VIEWER, 0, 14, UP, GRINDER, 0, 8, UP, GRINDER, 0, 15, UP, GRINDER, 0, 20, UP, GRINDER, 0, 13, UP);
        for (int faces = 0; faces < 4; faces++) {
            x.turns(0, faces);
            d.is("AHEAD by FACES " + faces, x.behind(0, 0, 3), 1 + faces);
            d.is("IN THE LENS by FACES " + faces, x.behind(0, 0, 4), 1 + (faces + 2) % 4);
        }
        x = hillOf(VIEWER, 0, 0, RIGHT, GRINDER, 0, 1, UP, GRINDER, 0, 6, UP);
        d.is("right of the first", x.behind(0, 0, 3), 1);
        x.turns(0, DOWN);
        d.is("below the first", x.behind(0, 0, 3), 2);
    }

    private static void next(Due d) {
        SeenFromBehind x = hillOf(VIEWER, 0, 14, RIGHT, GRINDER, 9, 17, UP, GRINDER, 9, 12, LEFT, GIRL, 0, 13, RIGHT, VIEWER, 0, 20, UP,
            VIEWER, 9, 2, UP);
        d.is("the next one to the right", x.behind(0, 0, 3), 1);
        d.is("the next one to the left", x.behind(0, 0, 4), 3);
        // The GIRL beside him has him AHEAD, as has he who looks up at him; he at 2 has him in the lens alone.
        d.is("who WATCHES him", x.behind(0, 0, 5), 8 + 16);
        d.is("him IN THE LENS", x.behind(5, 0, 4), 0);
        d.is("who WATCHES the one at 17", x.behind(1, 0, 5), 1);
        d.is("AHEAD of a GRINDER", x.behind(2, 0, 3), -9);
        d.is("IN THE LENS of a GRINDER", x.behind(2, 0, 4), 3);
        x.stands(0, 35);
        d.is("AHEAD of the GIRL now", x.behind(3, 0, 3), 1);
        d.is("AHEAD of him at 20 now", x.behind(4, 0, 3), 5);
        d.is("IN THE LENS of him at 2 now", x.behind(5, 0, 4), 4);
        d.is("AHEAD of him at 35", x.behind(0, 0, 3), -9);
        d.is("IN THE LENS of him at 35", x.behind(0, 0, 4), -9);
    }

    private static void behind(Due d) {
        SeenFromBehind x = eachKind();
        for (int n = 0; n < SEEN_BY_NIGHT.length; n++) {
            SeenFromBehind later = eachKind(n);
            for (int p = 0; p < 6; p++) {
                for (int what = 0; what < 3; what++) {
                    String of = "(" + p + ", " + n + ", ";
                    d.is("behind" + of + what + ")", x.behind(p, n, what), EACH_KIND_BY_NIGHT[n][p][what]);
                    d.is("behind" + of + (3 + what) + ")", x.behind(p, n, 3 + what), SEEN_BY_NIGHT[n][p][what]);
                    d.is("behind" + of + (3 + what) + "), gone by", later.behind(p, 0, 3 + what), SEEN_BY_NIGHT[n][p][what]);
                }
            }
        }
        for (int p = 0; p < 6; p++) {
            int[] one = EACH_KIND_BY_NIGHT[0][p];
            stateIs(d, x, p, one[0], one[1], one[2]);
        }
        d.is("NIGHT", x.count(1), 0);
    }

    private static void first(Due d) {
        SeenFromBehind x = eachKind();
        ofEach(d, "WATCHED", p -> x.first(p, 0), 2, 3, 1, -9, -9, -9);
        ofEach(d, "SHOWN", p -> x.first(p, 1), 0, 0, 0, 0, 0, 0);
        x.nights(1);
        ofEach(d, "WATCHED, a night on", p -> x.first(p, 0), 1, 2, 0, -9, -9, -9);
        ofEach(d, "SHOWN, a night on", p -> x.first(p, 1), 0, 0, 0, -9, 0, -9);
    }

    private static void chain(Due d) {
        int[][] now = {{2, 1, 1}, {2, 1, 0}, {2, 1, 3}, {2, 1, 2}, {2, 1, 5}, {2, 1, 4}};
        int[][] later = {{3, 0, 3}, {2, 0, 3}, {2, 0, 3}, {1, 0, 3}, {2, 0, 5}, {1, 0, 5}};
        for (int p = 0; p < 6; p++) {
            for (int what = 0; what < 3; what++) {
                d.is("chain(" + p + ", " + what + ")", eachKind().chain(p, what), now[p][what]);
                d.is("chain(" + p + ", " + what + "), a night on", eachKind(1).chain(p, what), later[p][what]);
            }
        }
    }

    private static void deepest(Due d) {
        d.is("deepest()", eachKind().deepest(), 0);
        SeenFromBehind x = eachKind(1);
        d.is("a night on", x.deepest(), 0);
        // Nobody is left of the VIEWER: the GIRL and the MASTER are two, as are others.
        x.turns(0, RIGHT);
        d.is("turned", x.deepest(), 1);
        // From the BORE on to the MASTER, from him to the GIRL on his left, from her to the VIEWER above her.
        x.turns(3, RIGHT);
        x.turns(1, DOWN);
        d.is("turned, too", x.deepest(), 2);
        d.is("how many", x.chain(2, 0), 4);
    }

    private static void knows(Due d) {
        SeenFromBehind x = eachKind(1);
        int[][] want = {{1, 3, 11, 15, 15}, {2, 10, 14, 14, 14}, {4, 12, 12, 12, 12}, {8, 12, 12, 12, 12}, {16, 48, 48, 48, 48},
            {32, 32, 32, 32, 32}};
        for (int p = 0; p < 6; p++) {
            for (int depth = 0; depth <= 6; depth++) {
                d.is("knows(" + p + ", " + depth + ")", x.knows(p, depth), want[p][Math.min(4, depth)]);
            }
        }
        // Who sees him is none whom he comes to.
        x = hillOf(VIEWER, 0, 14, RIGHT, VIEWER, 0, 20, UP, VIEWER, 0, 8, UP);
        d.is("knows(0, 6), seen by two", x.knows(0, 6), 1);
        d.is("knows(1, 6)", x.knows(1, 6), 1 + 2);
        d.is("knows(2, 6)", x.knows(2, 6), 1 + 4);
    }

    private static void safe(Due d) {
        SeenFromBehind x = eachKind(1);
        d.is("SAFE of the VIEWER", x.safe(0, 0), 2 + 4);
        d.is("BEST FACES of the VIEWER", x.safe(0, 1), RIGHT);
        d.is("SAFE of the MASTER", x.safe(3, 0), 1 + 8);
        d.is("BEST FACES of the MASTER", x.safe(3, 1), UP);
        d.is("SAFE of the GRINDER", x.safe(4, 0), 4 + 8);
        d.is("BEST FACES of the GRINDER", x.safe(4, 1), -9);
        d.is("SAFE of the EDGE", x.safe(5, 0), 15);
        d.is("BEST FACES of the EDGE", x.safe(5, 1), UP);
    }

    private static void alone(Due d) {
        SeenFromBehind x = eachKind();
        // Of the 30 free CELLS, 0, 2, 6, 24, 26, 28, 30, 32, 34 are WATCHED; at 0, 2, 4, 6, 10, 14 somebody is below him.
        d.is("how many", x.alone(4, 0), 30 - 12);
        d.is("the least", x.alone(4, 1), 1);
        x.turns(4, RIGHT);
        // Somebody is to the left of 9, 10, 11, of 13, 14, 15, 17 (16 is his own), of 19, 21, 23.
        d.is("how many, FACING right", x.alone(4, 0), 30 - 9 - 3 - 4 - 3);
        d.is("the least, FACING right", x.alone(4, 1), 1);
        x = hillOf(MASTER, 0, 0, RIGHT, GRINDER, 0, 30, UP);
        d.is("WATCHED in the MASTER's row", x.alone(1, 0), 34 - 5);
        d.is("the least there", x.alone(1, 1), 6);
    }

    private static void turnAll(Due d) {
        int[] want = {0, 1, 2, 3};
        for (int n = 0; n < want.length; n++) {
            d.is("turnAll() behind " + n, eachKind(n).turnAll(), want[n]);
        }
        SeenFromBehind x = hillOf(GRINDER, 0, 14, UP, VIEWER, 0, 8, DOWN, VIEWER, 0, 15, LEFT, VIEWER, 0, 20, UP);
        d.is("three WATCH one", x.turnAll(), 3);
        x = hillOf(VIEWER, 0, 14, UP, GRINDER, 0, 8, UP, GRINDER, 0, 20, UP, GRINDER, 0, 0, UP, GRINDER, 0, 5, UP, GRINDER, 0, 35, UP);
        d.is("one AHEAD, one IN THE LENS", x.turnAll(), 1);
        x = hillOf(VIEWER, 0, 14, UP, VIEWER, 0, 2, DOWN, GRINDER, 0, 17, UP, GRINDER, 0, 32, UP, GRINDER, 0, 12, UP);
        d.is("somebody all four ways", x.turnAll(), -9);
        x.stands(4, 6);
        d.is("nobody to the left", x.turnAll(), 2);
    }

    private static void post(Due d) {
        int[] five = {VIEWER, 0, 12, UP, GIRL, 0, 18, DOWN, BORE, 0, 8, UP, MASTER, 0, 20, DOWN, GRINDER, 0, 16, UP};
        SeenFromBehind x = hillOf(five);
        // 0 and 2 are WATCHED, 1 and 3 see nobody; at 4 the GRINDER is below.
        ofEach(d, "post", kind -> x.post(kind), 42, 42, 42, 42, -9, 42);
        d.is("nobody came", x.count(0), 5);
        SeenFromBehind without = hillOf(Arrays.copyOf(five, 16));
        // 0, 2, 6 are WATCHED, 1, 3, 4, 5 see nobody; at 7 the BORE is to the right.
        ofEach(d, "post, four there", kind -> without.post(kind), 71, 71, 71, 71, -9, 71);
        d.is("six there", eachKind().post(VIEWER), -3);
    }

    private static void which(Due d) {
        SeenFromBehind x = eachKind();
        tellRow(x, DOWN, LEFT, UP, UP);
        d.is("KINDS of the GIRL", x.which(1, 0), 1 << GIRL);
        d.is("FIGURES of the GIRL", x.which(1, 1), 1023);
        d.is("FACES at first of the GIRL", x.which(1, 2), 1 << DOWN);
        d.is("KINDS of the VIEWER", x.which(0, 0), 0);
        tellRow(x, UP, UP, UP, DOWN, DOWN);
        d.is("KINDS of the VIEWER", x.which(0, 0), 1 << VIEWER);
        d.is("FACES at first of the VIEWER", x.which(0, 2), 1 << UP);
        tellRow(x, DOWN);
        d.is("KINDS, told but now", x.which(3, 0), 63);
        d.is("FACES at first, told but now", x.which(3, 2), 1 << DOWN);
        d.is("the ROW stays", x.count(6), 1);
        for (int number = 0; number <= 4; number++) {
            x = withIdle(number);
            x.person(MASTER, 0, 14, UP);
            x.person(GRINDER, 0, 32, RIGHT);
            tellRow(x, UP, DOWN);
            d.is("FIGURES by which " + number + " sees three behind", x.which(number, 1), 1023 - 15);
            d.is("KINDS, too", x.which(number, 0), 0);
        }
    }

    private static void bestStep(Due d) {
        SeenFromBehind x = eachKind(1);
        // The BORE is WATCHED where he stays and a CELL up. Above the GIRL and the MASTER somebody is.
        ofEach(d, "bestStep", x::bestStep, UP, RIGHT, RIGHT, RIGHT, UP, UP);
        SeenFromBehind later = eachKind(3);
        // The VIEWER, too, is WATCHED where he stays and a CELL up.
        ofEach(d, "bestStep, later", later::bestStep, RIGHT, RIGHT, RIGHT, RIGHT, UP, UP);
    }

    private static void two(Due d) {
        SeenFromBehind x = eachKind(1);
        d.is("the BORE hides the GRINDER", x.two(0, 4), 10 * UP + UP);
        d.is("the GIRL steps aside, for up is taken", x.two(0, 1), 10 * UP + RIGHT);
        d.is("the MASTER steps aside", x.two(2, 3), 10 * UP + RIGHT);
        x = hillOf(MASTER, 9, 35, UP, VIEWER, 0, 5, LEFT, GRINDER, 0, 4, UP);
        // He at 5 can stay or step down to 11: the MASTER has him AHEAD at both by up, IN THE LENS at 11 alone by down.
        d.is("nowhere to go", x.two(0, 1), 10 * UP + DOWN);
        d.is("the other way", x.two(1, 0), 10 * UP + UP);
    }

    private static void slept(Due d) {
        SeenFromBehind x = eachKind();
        // The GIRL turns each of two nights, if she does not sleep.
        likely(d, x, 1, DOWN, 2, 3, 1, 9);
        likely(d, x, 1, LEFT, 2, 3, 4, 9);
        likely(d, x, 1, UP, 2, 3, 4, 9);
        likely(d, x, 1, RIGHT, 2, 3, 0, 1);
        // The VIEWER turns in the first night, from the third on, in which he does not sleep.
        likely(d, x, 0, UP, 2, 2, 1, 1);
        likely(d, x, 0, DOWN, 3, 2, 1, 2);
        likely(d, x, 0, DOWN, 4, 2, 3, 4);
        likely(d, x, 0, UP, 8, 10, 1, 1000000);
        stateIs(d, x, 1, 18, DOWN, 0);
    }

    private static void likely(Due d, SeenFromBehind x, int person, int f, int n, int t, long above, long below) {
        String call = "slept(" + person + ", " + f + ", " + n + ", " + t + ", ";
        d.is(call + "0)", x.slept(person, f, n, t, 0), above);
        d.is(call + "1)", x.slept(person, f, n, t, 1), below);
    }
}
