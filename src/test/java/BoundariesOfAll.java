import java.util.Arrays;

/** Promises 26 to 43, on their boundaries: what is told of all, the row, lots, the image, counts. */
final class BoundariesOfAll extends Hills {

    private BoundariesOfAll() {
    }

    static void test(Sentences s) {
        busiest(s);
        twos(s);
        nearest(s);
        lines(s);
        hidden(s);
        longest(s);
        walks(s);
        meets(s);
        leave(s);
        most(s);
        quiet(s);
        row(s);
        judge(s);
        clear(s);
        lots(s);
        image(s);
        restore(s);
        count(s);
    }

    private static void bothAre(Due d, String what, int first, int wantFirst, int second, int wantSecond) {
        d.is(what, first, wantFirst);
        d.is(what + ", how many", second, wantSecond);
    }

    private static void busiestIs(Due d, SeenFromBehind x, int who, int many) {
        bothAre(d, "busiest", x.busiest(0), who, x.busiest(1), many);
    }

    /** A GRINDER at 14 with VIEWERS on so many sides, who look at him. */
    private static SeenFromBehind lookedAt(int many) {
        SeenFromBehind x = hillOf(GRINDER, 0, 14, UP);
        for (int way = 0; way < many; way++) {
            x.person(VIEWER, 0, cellFrom(14, way, 1), opposite(way));
        }
        return x;
    }

    private static void busiest(Sentences s) {
        s.test(26, "BUSIEST (what 0; -9), how many (1; -9).", "none there; one there, none WATCHED", d -> {
            busiestIs(d, new SeenFromBehind(), -9, -9);
            busiestIs(d, hillOf(GIRL, 0, 14, UP), 0, 0);
            busiestIs(d, hillOf(GRINDER, 0, 0, UP, GRINDER, 0, 35, UP), 0, 0);
        });
        s.test(26, "the one whom most WATCH", "WATCHED by 1, 2, 3, 4", d -> {
            for (int many = 1; many <= 4; many++) {
                busiestIs(d, lookedAt(many), 0, many);
            }
        });
        s.test(26, "of several the least", "1 each, 2 against 1", d -> {
            SeenFromBehind x = hillOf(VIEWER, 0, 35, UP, VIEWER, 0, 14, DOWN, VIEWER, 0, 20, UP);
            busiestIs(d, x, 1, 1);
            x.stands(0, 32);
            busiestIs(d, x, 2, 2);
        });
        s.test(26, "the one whom most WATCH", "REACH away, 1 more", d -> {
            busiestIs(d, hillOf(VIEWER, 0, 30, UP, GRINDER, 0, 12, UP), 1, 1);
            busiestIs(d, hillOf(VIEWER, 0, 30, UP, GRINDER, 0, 6, UP), 0, 0);
        });
        s.test(26, "-2.", "what -1, 0, 1, 2", d -> range(d, "busiest", 0, -2, 1, -2, what -> x -> x.busiest(what)));
        s.test(26, "-2.", "none there", d -> refuses(d, SeenFromBehind::new, "busiest(2)", x -> x.busiest(2), -2));
    }

    private static void twosAre(Due d, SeenFromBehind x, int faceToFace, int backToBack) {
        d.is("FACE TO FACE", x.twos(0), faceToFace);
        d.is("BACK TO BACK", x.twos(1), backToBack);
    }

    private static void twos(Sentences s) {
        s.test(27, "FACE TO FACE: how many twos WATCH each other", "0, 1, 2, 3", d -> {
            int[] pairs = {VIEWER, 0, 0, RIGHT, VIEWER, 0, 1, LEFT, VIEWER, 0, 14, RIGHT, VIEWER, 0, 15, LEFT, VIEWER, 0, 28, RIGHT,
                VIEWER, 0, 29, LEFT};
            for (int many = 0; many <= 6; many++) {
                twosAre(d, hillOf(Arrays.copyOf(pairs, 4 * many)), many / 2, 0);
            }
        });
        s.test(27, "BACK TO BACK: how many twos have each other IN THE LENS", "0, 1, 2, 3", d -> {
            int[] pairs = {VIEWER, 0, 0, LEFT, VIEWER, 0, 1, RIGHT, VIEWER, 0, 14, LEFT, VIEWER, 0, 15, RIGHT, VIEWER, 0, 28, LEFT,
                VIEWER, 0, 29, RIGHT};
            for (int many = 0; many <= 6; many++) {
                twosAre(d, hillOf(Arrays.copyOf(pairs, 4 * many)), 0, many / 2);
            }
        });
        s.test(27, "each other", "one way alone is none", d -> {
            twosAre(d, twoViewers(), 0, 0);
            twosAre(d, hillOf(VIEWER, 0, 14, DOWN, GRINDER, 0, 20, UP), 0, 0);
            twosAre(d, hillOf(VIEWER, 0, 14, UP, VIEWER, 0, 20, RIGHT), 0, 0);
        });
        s.test(27, "FACE TO FACE (what 0), BACK TO BACK (1)", "REACH and DEPTH away, 1 more", d -> {
            twosAre(d, hillOf(VIEWER, 0, 0, DOWN, VIEWER, 0, 18, UP), 1, 0);
            twosAre(d, hillOf(VIEWER, 0, 0, DOWN, VIEWER, 0, 24, UP), 0, 0);
            twosAre(d, hillOf(GIRL, 0, 0, DOWN, VIEWER, 0, 24, UP), 0, 0);
            twosAre(d, hillOf(GIRL, 0, 0, DOWN, GIRL, 0, 24, UP), 1, 0);
            twosAre(d, hillOf(VIEWER, 0, 0, UP, VIEWER, 0, 12, DOWN), 0, 1);
            twosAre(d, hillOf(VIEWER, 0, 0, UP, VIEWER, 0, 18, DOWN), 0, 0);
            twosAre(d, hillOf(BORE, 0, 0, UP, VIEWER, 0, 18, DOWN), 0, 0);
            twosAre(d, hillOf(BORE, 0, 0, UP, BORE, 0, 18, DOWN), 0, 1);
        });
        s.test(27, "-2.", "what -1, 0, 1, 2", d -> range(d, "twos", 0, -2, 1, -2, what -> x -> x.twos(what)));
    }

    private static void nearestIs(Due d, SeenFromBehind x, int two, int apart) {
        bothAre(d, "nearest", x.nearest(0), two, x.nearest(1), apart);
    }

    private static void nearest(Sentences s) {
        s.test(28, "NEAREST (what 0; -9), how many (1; -9).", "none, one, two there", d -> {
            nearestIs(d, new SeenFromBehind(), -9, -9);
            nearestIs(d, hillOf(0, 0, 14, 0), -9, -9);
            nearestIs(d, hillOf(0, 0, 14, 0, 0, 0, 15, 0), 1, 1);
        });
        s.test(28, "with fewest CELLS apart (rows and columns together)", "1, 2, .. 10 apart", d -> {
            int[][] want = {{1, 1}, {6, 1}, {7, 2}, {2, 2}, {12, 2}, {5, 5}, {30, 5}, {11, 6}, {34, 9}, {35, 10}};
            for (int[] w : want) {
                nearestIs(d, hillOf(0, 0, 0, 0, 0, 0, w[0], 0), 1, w[1]);
            }
            nearestIs(d, hillOf(0, 0, 5, 0, 0, 0, 6, 0), 1, 6);
        });
        s.test(28, "of several the first", "as near, 1 nearer", d -> {
            SeenFromBehind x = hillOf(0, 0, 0, 0, 0, 0, 2, 0, 0, 0, 12, 0, 0, 0, 14, 0);
            nearestIs(d, x, 1, 2);
            x.stands(3, 13);
            nearestIs(d, x, 23, 1);
            x.stands(1, 1);
            nearestIs(d, x, 1, 1);
        });
        s.test(28, "the two (10 the lesser and the other)", "the last two of six", d ->
            nearestIs(d, hillOf(0, 0, 0, 0, 0, 0, 3, 0, 0, 0, 12, 0, 0, 0, 15, 0, 0, 0, 34, 0, 0, 0, 35, 0), 45, 1));
        s.test(28, "-2.", "what -1, 0, 1, 2", d -> {
            range(d, "nearest", 0, -2, 1, -2, what -> x -> x.nearest(what));
            refuses(d, SeenFromBehind::new, "nearest(2), none there", x -> x.nearest(2), -2);
        });
    }

    private static void lines(Sentences s) {
        s.test(29, "LINES: in how many rows and columns two or more are", "1, 2, 3, 6 in one", d -> {
            int[] row = {0, 0, 30, 0, 0, 0, 35, 0, 0, 0, 31, 0, 0, 0, 34, 0, 0, 0, 32, 0, 0, 0, 33, 0};
            int[] column = {0, 0, 5, 0, 0, 0, 35, 0, 0, 0, 11, 0, 0, 0, 29, 0, 0, 0, 17, 0, 0, 0, 23, 0};
            for (int many = 0; many <= 6; many++) {
                d.is(many + " in the last row", hillOf(Arrays.copyOf(row, 4 * many)).lines(), many < 2 ? 0 : 1);
                d.is(many + " in the last column", hillOf(Arrays.copyOf(column, 4 * many)).lines(), many < 2 ? 0 : 1);
            }
        });
        s.test(29, "in how many rows and columns", "0, 1, 2, 4, 6", d -> {
            d.is("on a slant", hillOf(0, 0, 0, 0, 0, 0, 7, 0, 0, 0, 14, 0, 0, 0, 21, 0, 0, 0, 28, 0, 0, 0, 35, 0).lines(), 0);
            d.is("first row and column", hillOf(0, 0, 0, 0, 0, 0, 1, 0, 0, 0, 6, 0).lines(), 2);
            d.is("a square", hillOf(0, 0, 28, 0, 0, 0, 29, 0, 0, 0, 34, 0, 0, 0, 35, 0).lines(), 4);
            d.is("six lines", hillOf(0, 0, 0, 0, 0, 0, 1, 0, 0, 0, 7, 0, 0, 0, 8, 0, 0, 0, 14, 0, 0, 0, 12, 0).lines(), 6);
            d.is("a row's end and the next one's beginning", hillOf(0, 0, 5, 0, 0, 0, 6, 0).lines(), 0);
        });
        s.test(29, "LINES.", "it but asks", d -> onlyAsks(d, Hills::lived, "lines()", SeenFromBehind::lines));
    }

    private static void hidden(Sentences s) {
        s.test(30, "HIDDEN: those (bits) whom nobody would WATCH, were everybody's REACH 5", "1 .. 5 away, each KIND", d -> {
            for (int kind = 0; kind <= 5; kind++) {
                for (int far = 1; far <= 5; far++) {
                    d.is("KIND " + kind + ", " + far, hillOf(kind, 0, 30, UP, GRINDER, 0, 30 - 6 * far, LEFT).hidden(), 1);
                    d.is("KIND " + kind + ", " + far, hillOf(kind, 9, 5, LEFT, GRINDER, 0, 5 - far, UP).hidden(), 1);
                }
            }
        });
        s.test(30, "those (bits) whom nobody would WATCH", "none there, all, none", d -> {
            d.is("none there", new SeenFromBehind().hidden(), 0);
            d.is("one", hillOf(VIEWER, 0, 0, DOWN).hidden(), 1);
            d.is("six", hillOf(GRINDER, 0, 0, UP, GRINDER, 0, 1, UP, GRINDER, 0, 2, UP, GRINDER, 0, 3, UP, GRINDER, 0, 4, UP,
                GRINDER, 0, 5, UP).hidden(), 63);
            d.is("each by the other", hillOf(GRINDER, 0, 0, DOWN, GRINDER, 0, 30, UP).hidden(), 0);
        });
        s.test(30, "whom nobody would WATCH", "the next one alone; the lens does not count", d -> {
            d.is("behind another one", hillOf(GRINDER, 0, 30, UP, GRINDER, 0, 12, LEFT, GRINDER, 0, 18, LEFT).hidden(), 3);
            d.is("in the lens", hillOf(GRINDER, 0, 30, DOWN, GRINDER, 0, 24, LEFT).hidden(), 3);
        });
        s.test(30, "HIDDEN (bits).", "it but asks", d -> onlyAsks(d, Hills::lived, "hidden()", SeenFromBehind::hidden));
    }

    private static void longest(Sentences s) {
        s.test(31, "LONGEST; -9.", "none there, one, with REACH 0", d -> {
            d.is("none there", new SeenFromBehind().longest(), -9);
            d.is("one", hillOf(GRINDER, 0, 0, 0).longest(), 0);
            d.is("two", hillOf(GRINDER, 0, 0, 0, GRINDER, 9, 1, 0).longest(), 0);
        });
        s.test(31, "the one with the greatest REACH, of several the least", "1 less, as great, 1 more", d -> {
            int[][] want = {{5, 0}, {6, 0}, {8, 0}, {9, 1}};
            for (int[] w : want) {
                d.is("EDGE, FIGURE " + w[0], hillOf(MASTER, 0, 0, 0, EDGE, w[0], 1, 0).longest(), w[1]);
                d.is("EDGE, FIGURE " + w[0] + ", first", hillOf(EDGE, w[0], 1, 0, MASTER, 0, 0, 0).longest(), w[0] < 6 ? 1 : 0);
            }
            d.is("the last of six", hillOf(VIEWER, 0, 0, 0, GIRL, 0, 1, 0, BORE, 9, 2, 0, MASTER, 9, 3, 0, GRINDER, 9, 4, 0, EDGE, 9, 5, 0)
                .longest(), 5);
        });
        s.test(31, "LONGEST; -9.", "it but asks", d -> onlyAsks(d, Hills::lived, "longest()", SeenFromBehind::longest));
    }

    private static void walksAre(Due d, SeenFromBehind x, int n, int steps, int turnings) {
        d.is("walks(0, " + n + ", 0)", x.walks(0, n, 0), steps);
        d.is("walks(0, " + n + ", 1)", x.walks(0, n, 1), turnings);
    }

    private static void walks(Sentences s) {
        s.test(32, "TURNED: how often one turns in these (to other FACES)", "0, 1, 59, 60 NIGHTS", d -> {
            for (int n : new int[] {0, 1, 59, 60}) {
                walksAre(d, masterBetween(), n, 0, n);
            }
        });
        s.test(32, "NIGHTWALK: how many CELLS one steps in n NIGHTS (0 .. 60) in all (each step counted)", "0, 1, 2, 3, 60 NIGHTS", d -> {
            int[][] want = {{0, 0}, {1, 1}, {2, 2}, {3, 2}, {60, 2}};
            for (int[] w : want) {
                walksAre(d, steppingBore(), w[0], w[1], 0);
            }
        });
        s.test(32, "NIGHTWALK (what 0), TURNED (1)", "a START without either", d -> {
            walksAre(d, withGrinderBehind(GRINDER), 60, 0, 0);
            walksAre(d, withGrinderBehind(VIEWER), 60, 0, 0);
            walksAre(d, withGrinderBehind(BORE), 60, 0, 0);
            walksAre(d, withGrinderBehind(GIRL), 60, 0, 1);
            walksAre(d, withGrinderBehind(EDGE), 60, 1, 0);
        });
        s.test(32, "-1;", "one -1, 0, the last, the next", d -> {
            onePerson(d, "walks(.., 1, 0)", p -> x -> x.walks(p, 1, 0));
            onePerson(d, "walks(.., 1, 1)", p -> x -> x.walks(p, 1, 1));
        });
        s.test(32, "-4; -6 60;", "n -1, 0, 1, 59, 60, 61", d -> range(d, "walks, n", 0, -4, 60, -6, n -> x -> x.walks(0, n, 1)));
        s.test(32, "-2.", "what -1, 0, 1, 2", d -> range(d, "walks, what", 0, -2, 1, -2, what -> x -> x.walks(0, 1, what)));
        s.test(32, "-1; -4; -6 60; -2.", "the order of each two", d -> {
            refuses(d, Hills::lived, "one, n below", x -> x.walks(3, -1, 0), -1);
            refuses(d, Hills::lived, "one, n above", x -> x.walks(3, 61, 0), -1);
            refuses(d, Hills::lived, "one, what", x -> x.walks(-1, 0, 2), -1);
            refuses(d, Hills::lived, "n below, what", x -> x.walks(0, -1, 2), -4);
            refuses(d, Hills::lived, "n above, what", x -> x.walks(0, 61, -1), -6);
        });
        s.test(32, "in n NIGHTS (0 .. 60)", "at NIGHT 999", d -> walksAre(d, after(masterBetween(), 999), 60, 0, 60));
    }

    private static void meetsIs(Due d, SeenFromBehind x, int one, int other, int n) {
        d.is("meets(" + one + ", " + other + ")", x.meets(one, other), n);
        d.is("meets(" + other + ", " + one + ")", x.meets(other, one), n);
    }

    private static void meets(Sentences s) {
        s.test(33, "behind which two are in CELLS beside each other", "1, 2 apart, on a slant, each way", d -> {
            for (int way = 0; way < 4; way++) {
                meetsIs(d, hillOf(GRINDER, 0, 14, UP, GRINDER, 0, cellFrom(14, way, 1), UP), 0, 1, 0);
                meetsIs(d, hillOf(EDGE, 0, 14, UP, EDGE, 0, cellFrom(14, way, 2), UP), 0, 1, -9);
                meetsIs(d, hillOf(EDGE, 0, 14, UP, EDGE, 0, cellFrom(cellFrom(14, way, 1), (way + 1) % 4, 1), UP), 0, 1, -9);
            }
        });
        s.test(33, "behind which two are in CELLS beside each other", "a row's end and the next one's beginning", d -> {
            for (int row = 0; row < 5; row++) {
                meetsIs(d, hillOf(GRINDER, 0, 6 * row + 5, UP, GRINDER, 0, 6 * row + 6, UP), 0, 1, -9);
            }
        });
        s.test(33, "MEETS: the first n (0 .. 60)", "0, 1, 2, 18, never", d -> {
            meetsIs(d, twoViewers(), 0, 1, 0);
            meetsIs(d, hillOf(BORE, 0, 8, UP, GRINDER, 0, 20, RIGHT), 0, 1, 1);
            meetsIs(d, steppingBore(), 0, 1, 2);
            SeenFromBehind x = longRestless();
            meetsIs(d, x, 0, 1, 18);
            x.nights(17);
            meetsIs(d, x, 0, 1, 1);
            x.nights(1);
            meetsIs(d, x, 0, 1, 0);
            meetsIs(d, hillOf(MASTER, 0, 14, UP, GRINDER, 0, 8, RIGHT, GRINDER, 0, 20, RIGHT, GRINDER, 0, 35, UP), 0, 3, -9);
        });
        s.test(33, "-1 either (one twice).", "each one: -1, 0, the last, the next", d -> {
            onePerson(d, "meets(.., 1 or 0)", p -> x -> x.meets(p, p == 1 ? 0 : 1));
            onePerson(d, "meets(1 or 0, ..)", p -> x -> x.meets(p == 1 ? 0 : 1, p));
        });
        s.test(33, "-1 either (one twice).", "the same one, one who isn't there twice", d -> {
            for (int p = -1; p <= 3; p++) {
                int one = p;
                refuses(d, Hills::lived, "meets(" + p + ", " + p + ")", x -> x.meets(one, one), -1);
            }
        });
    }

    private static void leave(Sentences s) {
        s.test(34, "LEAVE: who WATCHES a told one (bits), were another one not there.", "none, one, four; one who stands in the way", d -> {
            SeenFromBehind x = hillOf(GRINDER, 0, 2, UP, GRINDER, 0, 8, RIGHT, VIEWER, 0, 14, UP);
            d.is("the way is free then", x.leave(0, 1), 4);
            d.is("the way is not", x.leave(0, 2), 0);
            d.is("he who would see him is not there", x.leave(1, 2), 0);
            d.is("another one", x.leave(1, 0), 4);
            x = lookedAt(4);
            x.person(GRINDER, 0, 35, UP);
            d.is("four", x.leave(0, 5), 2 + 4 + 8 + 16);
            for (int p = 1; p <= 4; p++) {
                d.is("all but " + p, x.leave(0, p), 2 + 4 + 8 + 16 - (1 << p));
            }
        });
        s.test(34, "who WATCHES a told one (bits), were another one not there", "REACH away, 1 more, behind him", d -> {
            d.is("3 away", hillOf(GRINDER, 0, 12, UP, GRINDER, 0, 24, RIGHT, VIEWER, 0, 30, UP).leave(0, 1), 4);
            d.is("4 away", hillOf(GRINDER, 0, 6, UP, GRINDER, 0, 24, RIGHT, VIEWER, 0, 30, UP).leave(0, 1), 0);
            d.is("4 away, a GIRL", hillOf(GRINDER, 0, 6, UP, GRINDER, 0, 24, RIGHT, GIRL, 0, 30, UP).leave(0, 1), 4);
        });
        s.test(34, "were another one not there", "cells at each corner", d -> {
            for (int corner : new int[] {0, 5, 30, 35}) {
                SeenFromBehind x = hillOf(GRINDER, 0, 14, UP, GRINDER, 0, corner, UP, VIEWER, 0, 15, LEFT);
                d.is("corner " + corner, x.leave(0, 1), 4);
                d.is("he at the corner", x.leave(1, 0), 0);
            }
        });
        s.test(34, "were another one not there", "he who is not there WATCHES nobody, wherever he was, whichever way he FACES", d -> {
            for (int cell = 0; cell < 36; cell++) {
                for (int from = 0; from < 36; from++) {
                    if (from != cell) {
                        SeenFromBehind x = hillOf(GRINDER, 0, cell, UP, MASTER, 0, from, from % 4);
                        d.is("at " + cell + ", he at " + from, x.leave(0, 1), 0);
                        x.turns(1, (from / 6 + 1) % 4);
                        d.is("at " + cell + ", he at " + from + ", turned", x.leave(0, 1), 0);
                    }
                }
            }
        });
        s.test(34, "-1 either (one twice).", "each one: -1, 0, the last, the next", d -> {
            onePerson(d, "leave(.., 1 or 0)", p -> x -> x.leave(p, p == 1 ? 0 : 1));
            onePerson(d, "leave(1 or 0, ..)", p -> x -> x.leave(p == 1 ? 0 : 1, p));
        });
        s.test(34, "-1 either (one twice).", "the same one, one who isn't there twice", d -> {
            for (int p = -1; p <= 3; p++) {
                int one = p;
                refuses(d, Hills::lived, "leave(" + p + ", " + p + ")", x -> x.leave(one, one), -1);
            }
        });
    }

    private static void mostIs(Due d, SeenFromBehind x, int cell, int many) {
        bothAre(d, "most", x.most(0, 0), cell, x.most(0, 1), many);
    }

    private static void most(Sentences s) {
        s.test(35, "MOST: the free CELL a told one would be WATCHED at by most", "by 0, 1, 2, 3, 4", d -> {
            mostIs(d, hillOf(GRINDER, 0, 35, UP), 0, 0);
            int[] lookers = {GRINDER, 0, 35, UP, VIEWER, 0, 8, DOWN, VIEWER, 0, 16, LEFT, VIEWER, 0, 20, UP, VIEWER, 0, 12, RIGHT};
            int[] cells = {0, 14, 14, 14, 14};
            for (int many = 0; many <= 4; many++) {
                mostIs(d, hillOf(Arrays.copyOf(lookers, 4 * many + 4)), cells[many], many);
            }
        });
        s.test(35, "the free CELL", "his own is not, nor another one's", d -> {
            mostIs(d, hillOf(GRINDER, 0, 0, UP), 1, 0);
            mostIs(d, hillOf(GRINDER, 0, 0, UP, GRINDER, 0, 1, UP), 2, 0);
            SeenFromBehind x = hillOf(GRINDER, 0, 14, UP, BORE, 0, 8, DOWN, BORE, 0, 15, LEFT);
            mostIs(d, x, 0, 0);
            x.stands(0, 35);
            mostIs(d, x, 14, 2);
        });
        s.test(35, "of several the least; how many", "the first of three cells, the first free one", d -> {
            mostIs(d, hillOf(GRINDER, 0, 35, UP, VIEWER, 0, 0, RIGHT), 1, 1);
            mostIs(d, hillOf(GRINDER, 0, 1, UP, VIEWER, 0, 0, RIGHT), 2, 1);
            mostIs(d, hillOf(GRINDER, 0, 35, UP, VIEWER, 0, 5, LEFT), 2, 1);
            mostIs(d, hillOf(GRINDER, 0, 35, UP, GIRL, 0, 5, LEFT), 1, 1);
        });
        s.test(35, "-1;", "one -1, 0, the last, the next", d -> {
            onePerson(d, "most(.., 0)", p -> x -> x.most(p, 0));
            onePerson(d, "most(.., 1)", p -> x -> x.most(p, 1));
        });
        s.test(35, "-2.", "what -1, 0, 1, 2", d -> range(d, "most, what", 0, -2, 1, -2, what -> x -> x.most(0, what)));
        s.test(35, "-1; -2.", "the order", d -> {
            refuses(d, Hills::lived, "most(3, 2)", x -> x.most(3, 2), -1);
            refuses(d, Hills::lived, "most(-1, -1)", x -> x.most(-1, -1), -1);
        });
    }

    private static void quiet(Sentences s) {
        s.test(36, "QUIET: 1 if n NIGHTS go by without a START, else 0.", "0, 1, 60 NIGHTS", d -> {
            SeenFromBehind x = withGrinderBehind(GRINDER);
            d.is("0", x.quiet(0), 1);
            d.is("1", x.quiet(1), 0);
            d.is("60", x.quiet(60), 0);
            x = hillOf(GRINDER, 0, 14, UP, GRINDER, 0, 8, UP);
            d.is("1 starts", x.quiet(1), 0);
            x.stands(0, 35);
            for (int n : new int[] {0, 1, 59, 60}) {
                d.is("none, " + n, x.quiet(n), 1);
                d.is("none there, " + n, new SeenFromBehind().quiet(n), 1);
            }
        });
        s.test(36, "without a START", "DEPTH away, 1 more", d -> {
            d.is("2 away", hillOf(VIEWER, 0, 0, UP, GRINDER, 0, 12, RIGHT).quiet(1), 0);
            d.is("3 away", hillOf(VIEWER, 0, 0, UP, GRINDER, 0, 18, RIGHT).quiet(60), 1);
        });
        s.test(36, "without a START", "STARTS 98, 99, when they are no more", d -> {
            for (int nights = 97; nights <= 100; nights++) {
                d.is("behind " + nights, after(withGrinderBehind(GRINDER), nights).quiet(1), 0);
            }
        });
        s.test(36, "-4; -6 60.", "n -1, 0, 1, 59, 60, 61", d -> range(d, "quiet", 0, -4, 60, -6, n -> x -> x.quiet(n)));
    }

    private static SeenFromBehind withRow(int many) {
        SeenFromBehind x = lived();
        for (int i = x.count(6); i < many; i++) {
            x.row(i % 4);
        }
        return x;
    }

    private static void row(Sentences s) {
        s.test(37, "A number more of the ROW: how many.", "the 1st, .. 12th", d -> {
            SeenFromBehind x = new SeenFromBehind();
            for (int i = 1; i <= 12; i++) {
                d.is("row", x.row(i), i);
                d.is("count(6)", x.count(6), i);
            }
        });
        s.test(37, "-4;", "-1, 0, 1", d -> {
            refuses(d, Hills::lived, "row(-1)", x -> x.row(-1), -4);
            refuses(d, Hills::lived, "row(least)", x -> x.row(MIN), -4);
            d.is("row(0)", lived().row(0), 4);
            d.is("row(1)", lived().row(1), 4);
        });
        s.test(37, "-6 (99; 12, too).", "98, 99, 100", d -> {
            d.is("row(98)", lived().row(98), 4);
            d.is("row(99)", lived().row(99), 4);
            refuses(d, Hills::lived, "row(100)", x -> x.row(100), -6);
            refuses(d, Hills::lived, "row(greatest)", x -> x.row(MAX), -6);
        });
        s.test(37, "-6 (99; 12, too).", "11, 12 there are", d -> {
            d.is("11 there", withRow(11).row(0), 12);
            refuses(d, () -> withRow(12), "row(0), 12 there", x -> x.row(0), -6);
            refuses(d, () -> withRow(12), "row(99), 12 there", x -> x.row(99), -6);
        });
        s.test(37, "-4; -6 (99; 12, too).", "the order, 12 there", d -> {
            refuses(d, () -> withRow(12), "row(-1), 12 there", x -> x.row(-1), -4);
            refuses(d, () -> withRow(12), "row(100), 12 there", x -> x.row(100), -6);
        });
    }

    private static void judged(Due d, int want, int... numbers) {
        SeenFromBehind x = hillOf(0, 0, 14, 0, 0, 0, 0, 0, 0, 0, 35, 0);
        tellRow(x, numbers);
        d.is("judge() of " + Arrays.toString(numbers), x.judge(), want);
        d.is("count(6)", x.count(6), 0);
        d.is("judge() once more", x.judge(), -9);
    }

    private static void judge(Sentences s) {
        s.test(38, "CELLS of PEOPLE 0, 1, ..: the first that is not so (nobody there, too); -9.", "the first, the last, each, none", d -> {
            judged(d, -9, 14, 0, 35);
            judged(d, 0, 13, 0, 35);
            judged(d, 0, 15, 0, 35);
            judged(d, 1, 14, 1, 35);
            judged(d, 2, 14, 0, 34);
            judged(d, 2, 14, 0, 36);
            judged(d, 0, 99, 99, 99);
            judged(d, 1, 14, 99, 99);
        });
        s.test(38, "the first that is not so (nobody there, too); -9.", "fewer numbers than PEOPLE, as many, more", d -> {
            judged(d, -9);
            judged(d, -9, 14);
            judged(d, -9, 14, 0);
            judged(d, 3, 14, 0, 35, 0);
            judged(d, 3, 14, 0, 35, 14, 14);
            judged(d, 2, 14, 0, 0, 0);
            SeenFromBehind x = new SeenFromBehind();
            x.row(0);
            d.is("nobody there at all", x.judge(), 0);
        });
        s.test(38, "(nobody there, too)", "six and six numbers, 7, 12", d -> {
            for (int many : new int[] {6, 7, 12}) {
                SeenFromBehind x = hillOf(0, 0, 0, 0, 0, 0, 1, 0, 0, 0, 2, 0, 0, 0, 3, 0, 0, 0, 4, 0, 0, 0, 5, 0);
                for (int i = 0; i < many; i++) {
                    x.row(i);
                }
                d.is(many + " numbers", x.judge(), many > 6 ? 6 : -9);
            }
        });
        s.test(38, "(whichever it answers, the ROW has none then)", "12 once more behind it", d -> {
            SeenFromBehind x = withRow(12);
            x.judge();
            for (int i = 1; i <= 12; i++) {
                d.is("row", x.row(99), i);
            }
        });
        s.test(38, "JUDGED; -9", "nothing is refused", d -> {
            SeenFromBehind x = new SeenFromBehind();
            x.judge();
            x.row(5);
            x.judge();
            refused(d, x, 0, 0, 0, 0, 0, 0);
        });
    }

    private static void clear(Sentences s) {
        s.test(39, "The ROW has none then: how many it had.", "0, 1, 11, 12", d -> {
            for (int many : new int[] {0, 1, 11, 12}) {
                SeenFromBehind x = new SeenFromBehind();
                for (int i = 0; i < many; i++) {
                    x.row(i);
                }
                d.is("clear()", x.clear(), many);
                d.is("count(6)", x.count(6), 0);
                d.is("clear() once more", x.clear(), 0);
                d.is("row(7)", x.row(7), 1);
            }
        });
        s.test(39, "The ROW has none then", "the numbers that were there are no more looked at", d -> {
            SeenFromBehind x = hillOf(0, 0, 14, 0);
            x.row(99);
            x.clear();
            d.is("which(0, 2)", x.which(0, 2), 15);
            d.is("judge()", x.judge(), -9);
        });
    }

    /** What is due for a GRINDER at 14, a GRINDER at 20 and a VIEWER at 32, far from them. */
    private static int[] lotsDue(int n, int z) {
        int[] draws = draws(z, 3 * n);
        int starts = 0;
        int twos = 0;
        for (int i = 0; i < n; i++) {
            starts += draws[3 * i] == UP ? 10 : 0;
            starts += draws[3 * i + 1] == DOWN ? 10 : 0;
            starts += draws[3 * i + 1] == UP ? 10 : 0;
            starts += draws[3 * i + 2] == DOWN ? 10 : 0;
            twos += draws[3 * i + 2] == UP ? 1 : 0;
        }
        return new int[] {starts, twos};
    }

    private static void lots(Sentences s) {
        s.test(40, "n times (1 .. 20), each from now", "1, 2, 19, 20", d -> {
            for (int n : new int[] {1, 2, 19, 20}) {
                for (int z : new int[] {0, 1, 5, -1, MIN, MAX, 1 << 30}) {
                    SeenFromBehind x = hillOf(GRINDER, 0, 14, LEFT, GRINDER, 0, 20, LEFT, VIEWER, 0, 32, LEFT);
                    d.is("lots(" + n + ", " + z + ", 0)", x.lots(n, z, 0), lotsDue(n, z)[0]);
                    d.is("lots(" + n + ", " + z + ", 1)", x.lots(n, z, 1), lotsDue(n, z)[1]);
                    stateIs(d, x, 0, 14, LEFT, 0);
                }
            }
        });
        s.test(40, "z becomes z times 1103515245 plus 12345 (an int, wrapping); a DRAW below n is (z without its sign's bit, over 65536, cut)"
            + " modulo n.", "seeds whose first DRAW is 0, 1, 2, 3", d -> {
                for (int z = -20; z <= 20; z++) {
                    // He looks at the other one by one draw, and has him in the lens by the other one.
                    int draw = draws(z, 2)[0];
                    SeenFromBehind x = hillOf(MASTER, 0, 14, UP, GRINDER, 0, 8, UP);
                    // The GRINDER at 8 has the MASTER in the lens if he looks up.
                    int ofGrinder = draws(z, 2)[1] == UP ? 10 : 0;
                    d.is("STARTS, seed " + z, x.lots(1, z, 0), (draw == DOWN ? 1 : 0) + ofGrinder);
                    d.is("twos, seed " + z, x.lots(1, z, 1), draw == UP || draw == DOWN ? 1 : 0);
                }
            });
        s.test(40, "all STARTS more together", "some before, none, 99 at most", d -> {
            for (int nights : new int[] {0, 1, 89, 90, 95, 99, 100}) {
                SeenFromBehind x = after(hillOf(GRINDER, 0, 14, UP, GRINDER, 0, 20, RIGHT), nights);
                int more = 0;
                for (int i = 0; i < 20; i++) {
                    more += draws(7, 40)[2 * i] == UP ? Math.min(10, 99 - Math.min(99, nights)) : 0;
                    more += draws(7, 40)[2 * i + 1] == DOWN ? 10 : 0;
                }
                d.is("behind " + nights, x.lots(20, 7, 0), more);
            }
            d.is("none there", new SeenFromBehind().lots(20, 7, 0), 0);
        });
        s.test(40, "how many twos WATCH (one the other, each way counted) then", "none there, one, each way", d -> {
            d.is("none there", new SeenFromBehind().lots(20, 7, 1), 0);
            d.is("one", hillOf(MASTER, 0, 14, UP).lots(20, 7, 1), 0);
            int[] draws = draws(3, 40);
            int twos = 0;
            for (int i = 0; i < 20; i++) {
                twos += draws[2 * i] == DOWN ? 1 : 0;
                twos += draws[2 * i + 1] == UP ? 1 : 0;
            }
            d.is("two, too far off for the lens", hillOf(VIEWER, 0, 14, UP, VIEWER, 0, 32, UP).lots(20, 3, 1), twos);
        });
        s.test(40, "-4; -6 20;", "n 0, 1, 2, 19, 20, 21", d -> range(d, "lots, n", 1, -4, 20, -6, n -> x -> x.lots(n, 9, 0)));
        s.test(40, "-4; -6 20;", "n -1", d -> refuses(d, Hills::lived, "lots(-1, 0, 0)", x -> x.lots(-1, 0, 0), -4));
        s.test(40, "-2.", "what -1, 0, 1, 2", d -> range(d, "lots, what", 0, -2, 1, -2, what -> x -> x.lots(2, 9, what)));
        s.test(40, "-4; -6 20; -2.", "the order of each two", d -> {
            refuses(d, Hills::lived, "n below, what", x -> x.lots(0, 0, 2), -4);
            refuses(d, Hills::lived, "n above, what", x -> x.lots(21, 0, -1), -6);
        });
        s.test(40, "LOTS with a seed z", "each int is one", d -> {
            for (int z : new int[] {MIN, MIN + 1, -1, 0, 1, MAX - 1, MAX}) {
                onlyAsks(d, Hills::lived, "lots(3, " + z + ", 1)", x -> x.lots(3, z, 1));
            }
        });
        s.test(40, "then 10 NIGHTS", "at NIGHT 999, beyond it in mind", d -> {
            SeenFromBehind x = hillOf(GIRL, 0, 14, UP);
            after(x, 999);
            x.person(GRINDER, 0, 8, RIGHT);
            d.is("lots(20, 7, 0)", x.lots(20, 7, 0), hillOf(GIRL, 0, 14, UP, GRINDER, 0, 8, RIGHT).lots(20, 7, 0));
        });
    }

    private static void image(Sentences s) {
        s.test(41, "THE IMAGE is taken: NIGHT.", "NIGHT 0, 1, 998, 999", d -> {
            for (int night : new int[] {0, 1, 998, 999}) {
                SeenFromBehind x = after(masterBetween(), night);
                d.is("image()", x.image(), night);
                d.is("NIGHT", x.count(1), night);
            }
        });
        s.test(41, "THE IMAGE is taken: NIGHT.", "nothing else changes; the later one is RESTORED", d -> {
            SeenFromBehind x = lived();
            SeenFromBehind like = lived();
            x.image();
            like.image();
            x.image();
            d.holds("a second image changes nothing", tellingOf(x).equals(tellingOf(like)));
            x = masterBetween();
            x.image();
            x.nights(3);
            x.image();
            x.nights(4);
            d.is("restore()", x.restore(), 3);
        });
        s.test(41, "THE IMAGE is taken: NIGHT.", "of nobody", d -> {
            SeenFromBehind x = new SeenFromBehind();
            d.is("image()", x.image(), 0);
            x.person(0, 0, 0, 0);
            d.is("restore()", x.restore(), 0);
            d.is("count(0)", x.count(0), 0);
            d.is("person()", x.person(GIRL, 1, 0, 0), 0);
        });
        s.test(41, "What turns(), stands(), nights() changed can be TAKEN BACK", "an image leaves it", d -> {
            SeenFromBehind x = lived();
            int before = x.count(7);
            x.image();
            d.is("count(7)", x.count(7), before);
            d.is("back()", x.back(), before - 1);
        });
    }

    /** Six close together, who see one another ahead and in the lens. */
    private static final int[] CROWD = {GRINDER, 9, 14, DOWN, MASTER, 8, 8, DOWN, MASTER, 8, 13, RIGHT, GIRL, 8, 20, UP,
        EDGE, 9, 15, RIGHT, VIEWER, 8, 26, UP};

    private static void restore(Sentences s) {
        s.test(42, "It is RESTORED: NIGHT.", "once, twice, behind nights and one more", d -> {
            SeenFromBehind x = after(masterBetween(), 5);
            x.image();
            for (int i = 0; i < 2; i++) {
                x.nights(7);
                x.turns(1, UP);
                x.stands(2, 35);
                x.person(GIRL, 0, 0, 0);
                d.is("restore()", x.restore(), 5);
                d.is("NIGHT", x.count(1), 5);
                d.is("count(0)", x.count(0), 3);
                stateIs(d, x, 0, 14, DOWN, 5);
                stateIs(d, x, 1, 8, RIGHT, 0);
                stateIs(d, x, 2, 20, RIGHT, 0);
            }
        });
        s.test(42, "-3 there is none.", "none, one", d -> {
            refuses(d, BoundariesOfAll::livedWithoutImage, "restore()", SeenFromBehind::restore, -3);
            d.is("a new object", new SeenFromBehind().restore(), -3);
            SeenFromBehind x = new SeenFromBehind();
            x.image();
            d.is("one", x.restore(), 0);
        });
        s.test(42, "all that there is of I, but it, letters, the ROW, REFUSALS", "what is not in it stays", d -> {
            SeenFromBehind x = lived();
            feedAll(x, "n01");
            x.row(7);
            x.turns(9, 9);
            int[] want = {x.count(5), x.count(6), x.count(11), x.count(12), x.count(13), x.count(14), x.count(16)};
            x.restore();
            int[] got = {x.count(5), x.count(6), x.count(11), x.count(12), x.count(13), x.count(14), x.count(16)};
            for (int i = 0; i < want.length; i++) {
                d.is("number " + i, got[i], want[i]);
            }
            d.is("once more", x.restore(), 2);
        });
        s.test(42, "It is RESTORED", "those who came behind it are no more, in no answer", d -> {
            for (int many = 0; many <= 5; many++) {
                SeenFromBehind x = hillOf(Arrays.copyOf(CROWD, 4 * many));
                String before = answersOf(x);
                x.image();
                for (int i = 4 * many; i < CROWD.length; i += 4) {
                    x.person(CROWD[i], CROWD[i + 1], CROWD[i + 2], CROWD[i + 3]);
                }
                d.holds("all " + many + " and more", !answersOf(x).equals(before));
                x.nights(3);
                x.restore();
                d.is("count(0)", x.count(0), many);
                d.is("personOf(" + many + ", 0)", x.personOf(many, 0), -1);
                d.holds("with " + many + ": " + answersOf(x) + ", before: " + before, answersOf(x).equals(before));
            }
        });
        s.test(42, "It is RESTORED", "one who is no more starts and turns no more", d -> {
            SeenFromBehind x = hillOf(GRINDER, 0, 14, RIGHT, GRINDER, 0, 2, RIGHT);
            x.image();
            x.person(MASTER, 0, 8, UP);
            d.is("still()", x.still(), -9);
            d.is("quiet(60)", x.quiet(60), 0);
            d.is("allStarts(60)", x.allStarts(60), 60);
            x.restore();
            d.is("still()", x.still(), 0);
            d.is("quiet(60)", x.quiet(60), 1);
            d.is("allStarts(60)", x.allStarts(60), 0);
            d.is("nights(60)", x.nights(60), 0);
        });
        s.test(42, "restore(), where they are not refused, leave none", "1, 8 changes, one refused", d -> {
            for (int changes : new int[] {1, 8}) {
                SeenFromBehind x = hillOf(GIRL, 0, 14, UP);
                for (int i = 0; i < changes; i++) {
                    x.turns(0, RIGHT);
                }
                d.is("refused", x.restore(), -3);
                d.is("count(7)", x.count(7), changes);
                x.image();
                x.restore();
                d.is("count(7)", x.count(7), 0);
                d.is("back()", x.back(), -3);
            }
        });
        s.test(42, "It is RESTORED: NIGHT.", "from 999 to 0; nights go by again", d -> {
            SeenFromBehind x = masterBetween();
            x.image();
            after(x, 999);
            d.is("no more", x.nights(1), -6);
            d.is("restore()", x.restore(), 0);
            d.is("nights(1)", x.nights(1), 1);
        });
    }

    private static SeenFromBehind livedWithoutImage() {
        SeenFromBehind x = twoViewers();
        x.nights(1);
        x.turns(0, LEFT);
        feedAll(x, "n01;");
        x.row(14);
        return x;
    }

    private static void count(Sentences s) {
        s.test(43, "0 PEOPLE, 1 NIGHT, 2 all STARTS, 3 how many have somebody AHEAD, 4 IN THE LENS, 5 letters, 6 in the ROW, 7 what can be TAKEN"
            + " BACK", "0 of each", d -> {
                for (int what = 0; what <= 7; what++) {
                    d.is("count(" + what + ")", new SeenFromBehind().count(what), 0);
                }
            });
        s.test(43, "0 PEOPLE, 1 NIGHT, 2 all STARTS, 3 how many have somebody AHEAD, 4 IN THE LENS, 5 letters, 6 in the ROW, 7 what can be TAKEN"
            + " BACK", "the most of each", d -> {
                SeenFromBehind x = hillOf(GRINDER, 0, 0, LEFT, GRINDER, 0, 1, RIGHT, GRINDER, 0, 14, LEFT, GRINDER, 0, 15, RIGHT,
                    GRINDER, 0, 28, LEFT, GRINDER, 0, 29, RIGHT);
                after(x, 999);
                for (int i = 0; i < 97; i++) {
                    x.feed('p');
                }
                for (int i = 0; i < 13; i++) {
                    x.row(5);
                }
                int[] want = {6, 999, 6 * 99, 0, 6, 96, 12, 8};
                for (int what = 0; what <= 7; what++) {
                    d.is("count(" + what + ")", x.count(what), want[what]);
                }
                x = hillOf(VIEWER, 0, 0, RIGHT, VIEWER, 0, 1, LEFT, VIEWER, 0, 14, RIGHT, VIEWER, 0, 15, LEFT, VIEWER, 0, 28, RIGHT,
                    VIEWER, 0, 29, LEFT);
                d.is("all AHEAD", x.count(3), 6);
                d.is("none IN THE LENS", x.count(4), 0);
            });
        s.test(43, "3 how many have somebody AHEAD, 4 IN THE LENS", "REACH and DEPTH away, 1 more", d -> {
            d.is("3 away", hillOf(VIEWER, 0, 30, UP, GRINDER, 0, 12, RIGHT).count(3), 1);
            d.is("4 away", hillOf(VIEWER, 0, 30, UP, GRINDER, 0, 6, RIGHT).count(3), 0);
            d.is("2 away", hillOf(VIEWER, 0, 0, UP, GRINDER, 0, 12, RIGHT).count(4), 1);
            d.is("3 away", hillOf(VIEWER, 0, 0, UP, GRINDER, 0, 18, RIGHT).count(4), 0);
        });
        s.test(43, "11 .. 16 REFUSALS -1 .. -6", "0, 1, 2 of each", d -> {
            SeenFromBehind x = hillOf(GIRL, 0, 14, UP);
            refused(d, x, 0, 0, 0, 0, 0, 0);
            for (int i = 1; i <= 2; i++) {
                x.turns(1, 0);
                refused(d, x, i, i - 1, i - 1, i - 1, 0, i - 1);
                x.twos(2);
                refused(d, x, i, i, i - 1, i - 1, 0, i - 1);
                x.stands(0, 14);
                refused(d, x, i, i, i, i - 1, 0, i - 1);
                x.nights(0);
                refused(d, x, i, i, i, i, 0, i - 1);
                x.nights(61);
                refused(d, x, i, i, i, i, 0, i);
            }
        });
        s.test(43, "nothing changes but how many there were", "500 refused calls", d -> {
            SeenFromBehind x = twoViewers();
            for (int i = 1; i <= 500; i++) {
                x.turns(0, 4);
                d.is("count(11)", i % 100 == 0 ? x.count(11) : i, i);
            }
            stateIs(d, x, 0, 14, UP, 0);
        });
        s.test(43, "11 .. 16 REFUSALS -1 .. -6", "-9 is none of them", d -> {
            SeenFromBehind x = new SeenFromBehind();
            long[] ofNobody = {x.still(), x.deepest(), x.post(0), x.busiest(0), x.busiest(1), x.nearest(0), x.nearest(1), x.longest(),
                x.judge(), x.count(8)};
            for (int i = 1; i < ofNobody.length; i++) {
                d.is("answer " + i, ofNobody[i], -9);
            }
            refused(d, x, 0, 0, 0, 0, 0, 0);
            x = hillOf(GRINDER, 0, 0, UP, GRINDER, 0, 35, UP);
            long[] ofTwo = {x.behind(0, 1, 3), x.behind(0, 1, 4), x.first(0, 0), x.first(0, 1), x.safe(0, 1), x.meets(0, 1)};
            for (long answer : ofTwo) {
                d.is("an answer of two", answer, -9);
            }
            refused(d, x, 0, 0, 0, 0, 0, 0);
            x = lookedAt(4);
            x.stands(0, 35);
            x.person(VIEWER, 0, 14, UP);
            d.is("turnAll()", x.turnAll(), -9);
            refused(d, x, 0, 0, 0, 0, 0, 0);
            x = masterBetween();
            d.is("still()", x.still(), -9);
            refused(d, x, 0, 0, 0, 0, 0, 0);
        });
        s.test(43, "-9 for another what.", "-1, 8, 9, 10, 17, the least, the greatest number: not counted", d -> {
            for (int what : new int[] {MIN, -9, -1, 8, 9, 10, 17, 18, MAX}) {
                onlyAsks(d, Hills::lived, "count(" + what + ")", x -> x.count(what));
                d.is("count(" + what + ")", lived().count(what), -9);
            }
            for (int what = 0; what <= 16; what++) {
                d.is("count(" + what + ") is told", lived().count(what) == -9 ? 1 : 0, what >= 8 && what <= 10 ? 1 : 0);
            }
        });
    }
}
