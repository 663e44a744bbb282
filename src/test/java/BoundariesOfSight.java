/** Promises 10 to 25, on their boundaries: what is seen, now and some nights on, in mind. */
final class BoundariesOfSight extends Hills {

    private BoundariesOfSight() {
    }

    static void test(Sentences s) {
        behind(s);
        behindSees(s);
        allStarts(s);
        first(s);
        still(s);
        unseen(s);
        chain(s);
        deepest(s);
        knows(s);
        safe(s);
        alone(s);
        turnAll(s);
        post(s);
        which(s);
        bestStep(s);
        two(s);
        slept(s);
    }

    /** A GRINDER who starts each night, for so many nights. */
    private static SeenFromBehind grinder(int nights) {
        return after(hillOf(GRINDER, 0, 14, UP, GRINDER, 0, 20, RIGHT), nights);
    }

    private static void behind(Sentences s) {
        s.test(10, "n NIGHTS on: CELL (what 0), FACES (1), STARTS (2), AHEAD (3; -9), IN THE LENS (4; -9), who WATCHES him (5, bits).",
            "0, 1, 59, 60 NIGHTS on", d -> {
                SeenFromBehind x = masterBetween();
                for (int n : new int[] {0, 1, 59, 60}) {
                    boolean up = n % 2 == 0;
                    int[] want = {14, up ? UP : DOWN, n, up ? 1 : 2, up ? 2 : 1, 0};
                    for (int what = 0; what < 6; what++) {
                        d.is("behind(0, " + n + ", " + what + ")", x.behind(0, n, what), want[what]);
                    }
                }
            });
        s.test(10, "CELL (what 0)", "the last step, the one before it", d -> {
            SeenFromBehind x = steppingBore();
            int[] cells = {8, 14, 20, 20};
            for (int n = 0; n < 4; n++) {
                d.is("behind(0, " + n + ", 0)", x.behind(0, n, 0), cells[n]);
            }
            d.is("behind(0, 60, 0)", x.behind(0, 60, 0), 20);
        });
        s.test(10, "-1;", "one -1, 0, the last, the next", d -> {
            for (int what = 0; what <= 5; what++) {
                int w = what;
                onePerson(d, "behind(.., 1, " + w + ")", p -> x -> x.behind(p, 1, w));
            }
        });
        s.test(10, "-4; -6 60;", "n -1, 0, 1, 59, 60, 61", d ->
            range(d, "behind, n", 0, -4, 60, -6, n -> x -> x.behind(0, n, 1)));
        s.test(10, "-2.", "what -1, 0, 5, 6", d ->
            range(d, "behind, what", 0, -2, 5, -2, what -> x -> x.behind(0, 1, what)));
        s.test(10, "-1; -4; -6 60; -2.", "the order of each two", d -> {
            refuses(d, Hills::lived, "one, n below", x -> x.behind(3, -1, 0), -1);
            refuses(d, Hills::lived, "one, n above", x -> x.behind(3, 61, 0), -1);
            refuses(d, Hills::lived, "one, what", x -> x.behind(-1, 0, 6), -1);
            refuses(d, Hills::lived, "n below, what", x -> x.behind(0, -1, 6), -4);
            refuses(d, Hills::lived, "n above, what", x -> x.behind(0, 61, -1), -6);
        });
        s.test(10, "In mind, n NIGHTS on (0 .. 60)", "beyond NIGHT 999 in mind", d -> {
            SeenFromBehind x = after(masterBetween(), 999);
            d.is("at NIGHT 999 he FACES", x.behind(0, 0, 1), DOWN);
            d.is("one on", x.behind(0, 1, 1), UP);
            d.is("60 on", x.behind(0, 60, 1), DOWN);
            d.is("NIGHT", x.count(1), 999);
        });
        s.test(10, "0 .. 99; 0 at first", "STARTS 98, 99, no more", d -> {
            SeenFromBehind x = grinder(97);
            d.is("97", x.behind(0, 0, 2), 97);
            d.is("98", x.behind(0, 1, 2), 98);
            d.is("99", x.behind(0, 2, 2), 99);
            d.is("99 still", x.behind(0, 3, 2), 99);
            d.is("99 still", x.behind(0, 60, 2), 99);
        });
    }

    private static void behindSees(Sentences s) {
        s.test(10, "no more than REACH CELLS away; nobody", "1 .. 5 away, each KIND and FIGURE, each way", d ->
            everyDistance(d, 3, REACH));
        s.test(10, "no more than DEPTH away; nobody", "1 .. 5 away, each KIND and FIGURE, each way", d ->
            everyDistance(d, 4, DEPTH));
        s.test(10, "the next one straight the way he FACES", "one hides another one", d -> {
            for (int way = 0; way < 4; way++) {
                int from = new int[] {32, 12, 2, 17}[way];
                SeenFromBehind x = hillOf(MASTER, 9, from, way, GRINDER, 0, cellFrom(from, way, 3), (way + 1) % 4,
                    GRINDER, 0, cellFrom(from, way, 2), (way + 1) % 4);
                d.is("AHEAD", x.behind(0, 0, 3), 2);
                d.is("who WATCHES the hidden one", x.behind(1, 0, 5), 0);
                d.is("who WATCHES the next one", x.behind(2, 0, 5), 1);
                x.turns(0, opposite(way));
                d.is("AHEAD, when he has turned", x.behind(0, 0, 3), -9);
                d.is("IN THE LENS", x.behind(0, 0, 4), 2);
                d.is("IN THE LENS does not WATCH", x.behind(2, 0, 5), 0);
            }
        });
        s.test(10, "CELLS 0 .. 35: row CELL by 6, column CELL modulo 6", "a row's end is not the next row's beginning", d -> {
            for (int row = 0; row < 5; row++) {
                int end = 6 * row + 5;
                SeenFromBehind x = hillOf(MASTER, 9, end, RIGHT, MASTER, 9, end + 1, LEFT);
                d.is("RIGHT of " + end, x.behind(0, 0, 3), -9);
                d.is("LEFT of " + (end + 1), x.behind(1, 0, 3), -9);
                x.turns(0, LEFT);
                x.turns(1, RIGHT);
                d.is("in the lens of " + end, x.behind(0, 0, 4), -9);
                d.is("in the lens of " + (end + 1), x.behind(1, 0, 4), -9);
            }
        });
        s.test(10, "CELLS 0 .. 35: row CELL by 6, column CELL modulo 6", "not straight: every other cell", d -> {
            for (int cell = 0; cell < 36; cell++) {
                if (cell % 6 != 2 && cell / 6 != 2) {
                    for (int way = 0; way < 4; way++) {
                        SeenFromBehind x = hillOf(MASTER, 9, 14, way, GRINDER, 9, cell, way);
                        d.is("AHEAD at " + cell, x.behind(0, 0, 3), -9);
                        d.is("IN THE LENS at " + cell, x.behind(0, 0, 4), -9);
                    }
                }
            }
        });
        s.test(10, "who WATCHES him (bits)", "none, one, four", d -> {
            SeenFromBehind x = hillOf(GRINDER, 0, 14, UP, VIEWER, 0, 8, UP, VIEWER, 0, 15, UP, VIEWER, 0, 20, DOWN, VIEWER, 0, 13, DOWN,
                GRINDER, 0, 35, UP);
            d.is("none", x.behind(0, 0, 5), 0);
            x.turns(1, DOWN);
            d.is("one", x.behind(0, 0, 5), 2);
            x.turns(2, LEFT);
            x.turns(3, UP);
            x.turns(4, RIGHT);
            d.is("four", x.behind(0, 0, 5), 2 + 4 + 8 + 16);
        });
    }

    /** From each rim one looks, ahead or by the lens, at another one who is 1 .. 5 away. */
    private static void everyDistance(Due d, int what, int[][] farthest) {
        for (int kind = 0; kind <= 5; kind++) {
            for (int figure = 0; figure <= 9; figure++) {
                for (int far = 1; far <= 5; far++) {
                    for (int way = 0; way < 4; way++) {
                        int from = new int[] {32, 12, 2, 17}[way];
                        SeenFromBehind x = hillOf(kind, figure, from, what == 3 ? way : opposite(way),
                            GRINDER, 0, cellFrom(from, way, far), (way + 1) % 4);
                        boolean seen = far <= farthest[kind][figure];
                        String who = "KIND " + kind + ", FIGURE " + figure + ", " + far + " away, way " + way;
                        d.is(who, x.behind(0, 0, what), seen ? 1 : -9);
                        d.is(who + ", WATCHED", x.behind(1, 0, 5), seen && what == 3 ? 1 : 0);
                    }
                }
            }
        }
    }

    private static void allStarts(Sentences s) {
        s.test(11, "n NIGHTS on all STARTS.", "0, 1, 59, 60, of one and of two", d -> {
            for (int n : new int[] {0, 1, 59, 60}) {
                d.is("of one, " + n, grinder(0).allStarts(n), n);
                d.is("of two, " + n, hillOf(GRINDER, 0, 14, UP, GRINDER, 0, 20, DOWN).allStarts(n), 2 * n);
                d.is("of none, " + n, new SeenFromBehind().allStarts(n), 0);
            }
        });
        s.test(11, "-4; -6 60.", "n -1, 0, 1, 59, 60, 61", d ->
            range(d, "allStarts", 0, -4, 60, -6, n -> x -> x.allStarts(n)));
        s.test(11, "0 .. 99; 0 at first", "97, 98, 99, no more", d -> {
            SeenFromBehind x = grinder(97);
            int[] want = {97, 98, 99, 99, 99};
            for (int n = 0; n < want.length; n++) {
                d.is("allStarts(" + n + ")", x.allStarts(n), want[n]);
            }
            d.is("allStarts(60)", x.allStarts(60), 99);
        });
        s.test(11, "In mind, n NIGHTS on (0 .. 60)", "at NIGHT 999", d -> {
            SeenFromBehind x = hillOf(GIRL, 0, 14, UP);
            after(x, 999);
            x.person(GRINDER, 0, 8, DOWN);
            d.is("allStarts(0)", x.allStarts(0), 0);
            x.turns(1, UP);
            d.is("allStarts(60)", x.allStarts(60), 60);
            d.is("NIGHT", x.count(1), 999);
        });
    }

    /** Of all hills that a long search met, those on which it takes longest till one is WATCHED, has somebody IN THE LENS. */
    private static SeenFromBehind longWatched() {
        return hillOf(GRINDER, 1, 35, DOWN, BORE, 4, 23, RIGHT, BORE, 4, 3, UP, BORE, 4, 24, LEFT, BORE, 9, 4, UP, BORE, 8, 30, LEFT);
    }

    private static SeenFromBehind longShown() {
        return hillOf(BORE, 6, 11, RIGHT, BORE, 8, 31, DOWN, BORE, 9, 5, RIGHT, EDGE, 8, 18, UP, BORE, 4, 30, DOWN, BORE, 4, 32, DOWN);
    }

    private static void first(Sentences s) {
        s.test(12, "WATCHED: the first n (0 .. 60) behind which somebody WATCHES one; -9;", "0, 1, 15, never", d -> {
            d.is("now", twoViewers().first(0, 0), 0);
            d.is("when the MASTER has turned", hillOf(GRINDER, 0, 8, RIGHT, MASTER, 0, 14, DOWN, GRINDER, 0, 13, UP).first(0, 0), 1);
            SeenFromBehind x = longWatched();
            for (int n = 0; n < 15; n++) {
                d.is("behind " + n, x.behind(1, n, 5), 0);
            }
            d.holds("behind 15 somebody does", x.behind(1, 15, 5) != 0);
            d.is("late", x.first(1, 0), 15);
            x.nights(14);
            d.is("14 NIGHTS later", x.first(1, 0), 1);
            x.nights(1);
            d.is("15 NIGHTS later", x.first(1, 0), 0);
            d.is("never, all still", hillOf(VIEWER, 0, 0, UP).first(0, 0), -9);
            d.is("never, one turns for ever", hillOf(MASTER, 0, 14, UP, GRINDER, 0, 8, RIGHT, GRINDER, 0, 20, RIGHT, GRINDER, 0, 35, UP)
                .first(3, 0), -9);
        });
        s.test(12, "SHOWN: the first behind which somebody is IN THE LENS; -9.", "0, 1, 15, never", d -> {
            d.is("now", twoViewers().first(0, 1), 0);
            d.is("when the BORE has stepped back once", hillOf(GRINDER, 9, 12, LEFT, BORE, 0, 8, UP, GRINDER, 0, 26, RIGHT).first(0, 1), 1);
            SeenFromBehind x = longShown();
            for (int n = 0; n < 15; n++) {
                d.is("behind " + n, x.behind(5, n, 4), -9);
            }
            d.holds("behind 15 somebody is", x.behind(5, 15, 4) != -9);
            d.is("late", x.first(5, 1), 15);
            x.nights(14);
            d.is("14 NIGHTS later", x.first(5, 1), 1);
            x.nights(1);
            d.is("15 NIGHTS later", x.first(5, 1), 0);
            d.is("never, all still", hillOf(VIEWER, 0, 0, UP).first(0, 1), -9);
            d.is("never, one turns for ever", hillOf(MASTER, 0, 14, UP, GRINDER, 0, 8, RIGHT, GRINDER, 0, 20, RIGHT, GRINDER, 0, 35, UP)
                .first(3, 1), -9);
        });
        s.test(12, "behind which somebody WATCHES one", "3 away is WATCHED, 4 is not", d -> {
            d.is("3 away", hillOf(VIEWER, 0, 30, UP, GRINDER, 0, 12, RIGHT).first(1, 0), 0);
            d.is("4 away", hillOf(VIEWER, 0, 30, UP, GRINDER, 0, 6, RIGHT).first(1, 0), -9);
        });
        s.test(12, "-1;", "one -1, 0, the last, the next", d -> {
            onePerson(d, "first(.., 0)", p -> x -> x.first(p, 0));
            onePerson(d, "first(.., 1)", p -> x -> x.first(p, 1));
        });
        s.test(12, "-2.", "what -1, 0, 1, 2", d -> range(d, "first, what", 0, -2, 1, -2, what -> x -> x.first(0, what)));
        s.test(12, "-1; -2.", "the order", d -> {
            refuses(d, Hills::lived, "first(3, 2)", x -> x.first(3, 2), -1);
            refuses(d, Hills::lived, "first(-1, -1)", x -> x.first(-1, -1), -1);
        });
        s.test(12, "In mind", "at NIGHT 999", d -> {
            SeenFromBehind x = after(hillOf(GIRL, 0, 0, UP), 999);
            x.person(MASTER, 0, 14, DOWN);
            x.person(GRINDER, 0, 8, RIGHT);
            d.is("when the MASTER has turned", x.first(2, 0), 1);
            d.is("NIGHT", x.count(1), 999);
        });
    }

    private static void still(Sentences s) {
        s.test(13, "STILL: the first n (0 .. 60) behind which a NIGHT moves and turns nobody; -9.", "0, 1, 2, 18, never", d -> {
            d.is("nobody", new SeenFromBehind().still(), 0);
            d.is("one alone", hillOf(GIRL, 0, 14, UP).still(), 0);
            d.is("one turns once", twoViewers().still(), 1);
            d.is("one steps twice", steppingBore().still(), 2);
            SeenFromBehind x = longRestless();
            d.is("late", x.still(), 18);
            d.holds("the 18th NIGHT moves or turns", !hillIn(x, 17).equals(hillIn(x, 18)));
            d.holds("the 19th does not", hillIn(x, 18).equals(hillIn(x, 19)));
            x.nights(17);
            d.is("17 NIGHTS later", x.still(), 1);
            x.nights(1);
            d.is("18 NIGHTS later", x.still(), 0);
            d.is("one turns for ever", masterBetween().still(), -9);
        });
        s.test(13, "moves and turns nobody", "one who starts and does nothing; a VIEWER, a BORE, an EDGE who can't", d -> {
            d.is("a GRINDER", grinder(0).still(), 0);
            d.is("a VIEWER not WATCHED", withGrinderBehind(VIEWER).still(), 0);
            d.is("a BORE before him", withGrinderBehind(BORE).still(), 0);
            d.is("an EDGE at the rim", hillOf(EDGE, 0, 2, UP, GRINDER, 0, 8, RIGHT).still(), 0);
            d.is("a GIRL", withGrinderBehind(GIRL).still(), 1);
            d.is("a MASTER", withGrinderBehind(MASTER).still(), 1);
            d.is("an EDGE", withGrinderBehind(EDGE).still(), 1);
        });
        s.test(13, "STILL; -9.", "it but asks, at NIGHT 999, too", d -> {
            onlyAsks(d, Hills::lived, "still()", SeenFromBehind::still);
            d.is("at NIGHT 999", after(masterBetween(), 999).still(), -9);
        });
    }

    private static String hillIn(SeenFromBehind x, int n) {
        StringBuilder text = new StringBuilder();
        for (int p = 0; p < x.count(0); p++) {
            text.append(x.behind(p, n, 0)).append('/').append(x.behind(p, n, 1)).append(' ');
        }
        return text.toString();
    }

    private static void unseen(Sentences s) {
        s.test(14, "UNSEEN: those (bits) whom nobody WATCHES and nobody has IN THE LENS.", "none there, all, none", d -> {
            d.is("none there", new SeenFromBehind().unseen(), 0);
            d.is("one alone", hillOf(VIEWER, 0, 14, UP).unseen(), 1);
            d.is("six", hillOf(VIEWER, 0, 0, LEFT, VIEWER, 0, 7, LEFT, VIEWER, 0, 14, UP, VIEWER, 0, 21, UP, VIEWER, 0, 28, DOWN,
                VIEWER, 0, 35, RIGHT).unseen(), 63);
            d.is("each sees the other", twoViewers().unseen(), 0);
        });
        s.test(14, "whom nobody WATCHES", "REACH away, 1 more", d -> {
            d.is("3 away", hillOf(VIEWER, 0, 30, UP, GRINDER, 0, 12, RIGHT).unseen(), 1);
            d.is("4 away", hillOf(VIEWER, 0, 30, UP, GRINDER, 0, 6, RIGHT).unseen(), 3);
        });
        s.test(14, "nobody has IN THE LENS", "DEPTH away, 1 more", d -> {
            d.is("2 away", hillOf(VIEWER, 0, 0, UP, GRINDER, 0, 12, RIGHT).unseen(), 1);
            d.is("3 away", hillOf(VIEWER, 0, 0, UP, GRINDER, 0, 18, RIGHT).unseen(), 3);
        });
        s.test(14, "UNSEEN (bits).", "it but asks", d -> onlyAsks(d, Hills::lived, "unseen()", SeenFromBehind::unseen));
    }

    private static void chainIs(Due d, SeenFromBehind x, int person, int many, int ring, int last) {
        d.is("chain(" + person + ", 0)", x.chain(person, 0), many);
        d.is("chain(" + person + ", 1)", x.chain(person, 1), ring);
        d.is("chain(" + person + ", 2)", x.chain(person, 2), last);
    }

    private static void chain(Sentences s) {
        s.test(15, "till nobody is", "1, 2, 6 in it", d -> {
            chainIs(d, hillOf(VIEWER, 0, 14, UP), 0, 1, 0, 0);
            chainIs(d, withGrinderBehind(VIEWER), 0, 2, 0, 1);
            chainIs(d, withGrinderBehind(VIEWER), 1, 1, 0, 1);
            SeenFromBehind x = hillOf(GRINDER, 0, 0, LEFT, GRINDER, 0, 1, LEFT, GRINDER, 0, 2, LEFT, GRINDER, 0, 3, LEFT,
                GRINDER, 0, 4, LEFT, GRINDER, 0, 5, LEFT);
            for (int p = 0; p < 6; p++) {
                chainIs(d, x, p, 6 - p, 0, 5);
            }
        });
        s.test(15, "or one comes again", "rings of 2, 4, 6", d -> {
            chainIs(d, hillOf(VIEWER, 0, 14, UP, VIEWER, 0, 20, DOWN), 0, 2, 1, 1);
            SeenFromBehind x = hillOf(VIEWER, 0, 0, LEFT, VIEWER, 0, 1, UP, VIEWER, 0, 7, RIGHT, VIEWER, 0, 6, DOWN);
            for (int p = 0; p < 4; p++) {
                chainIs(d, x, p, 4, 1, (p + 3) % 4);
            }
            x = hillOf(EDGE, 0, 0, LEFT, EDGE, 0, 1, LEFT, EDGE, 0, 2, UP, EDGE, 0, 8, RIGHT, EDGE, 0, 7, RIGHT, EDGE, 0, 6, DOWN);
            for (int p = 0; p < 6; p++) {
                chainIs(d, x, p, 6, 1, (p + 5) % 6);
            }
        });
        s.test(15, "or one comes again", "a ring that he leads to and is not in", d -> {
            SeenFromBehind x = hillOf(GRINDER, 0, 0, LEFT, GRINDER, 0, 1, LEFT, GRINDER, 0, 2, LEFT, GRINDER, 0, 3, LEFT,
                GRINDER, 0, 4, LEFT, GRINDER, 0, 5, RIGHT);
            for (int p = 0; p < 4; p++) {
                chainIs(d, x, p, 6 - p, 1, 5);
            }
            chainIs(d, x, 4, 2, 1, 5);
            chainIs(d, x, 5, 2, 1, 4);
        });
        s.test(15, "who is IN THE LENS of him", "DEPTH away, 1 more", d -> {
            chainIs(d, hillOf(VIEWER, 0, 0, UP, GRINDER, 0, 12, RIGHT), 0, 2, 0, 1);
            chainIs(d, hillOf(VIEWER, 0, 0, UP, GRINDER, 0, 18, RIGHT), 0, 1, 0, 0);
        });
        s.test(15, "-1;", "one -1, 0, the last, the next", d -> {
            for (int what = 0; what <= 2; what++) {
                int w = what;
                onePerson(d, "chain(.., " + w + ")", p -> x -> x.chain(p, w));
            }
        });
        s.test(15, "-2.", "what -1, 0, 2, 3", d -> range(d, "chain, what", 0, -2, 2, -2, what -> x -> x.chain(0, what)));
        s.test(15, "-1; -2.", "the order", d -> {
            refuses(d, Hills::lived, "chain(3, 3)", x -> x.chain(3, 3), -1);
            refuses(d, Hills::lived, "chain(-1, -1)", x -> x.chain(-1, -1), -1);
        });
    }

    private static void deepest(Sentences s) {
        s.test(16, "of several the least; -9.", "none there, one, all alike", d -> {
            d.is("none there", new SeenFromBehind().deepest(), -9);
            d.is("one", hillOf(VIEWER, 0, 35, UP).deepest(), 0);
            d.is("all alike", hillOf(VIEWER, 0, 0, LEFT, VIEWER, 0, 7, LEFT, VIEWER, 0, 14, UP).deepest(), 0);
            d.is("1 and 2 of three", hillOf(VIEWER, 0, 35, LEFT, VIEWER, 0, 14, UP, VIEWER, 0, 20, DOWN).deepest(), 1);
        });
        s.test(16, "DEEPEST: the one with the longest CHAIN", "the first, the last, 1 more than another one", d -> {
            d.is("the last", hillOf(VIEWER, 0, 20, UP, VIEWER, 0, 14, UP, VIEWER, 0, 8, UP).deepest(), 2);
            d.is("the first", hillOf(VIEWER, 0, 8, UP, VIEWER, 0, 14, UP, VIEWER, 0, 20, UP).deepest(), 0);
            d.is("3 against 2", hillOf(GRINDER, 0, 0, LEFT, GRINDER, 0, 1, RIGHT, GRINDER, 0, 5, LEFT, VIEWER, 0, 22, UP, VIEWER, 0, 28, UP,
                VIEWER, 0, 34, UP).deepest(), 3);
        });
        s.test(16, "DEEPEST; -9.", "it but asks", d -> onlyAsks(d, Hills::lived, "deepest()", SeenFromBehind::deepest));
    }

    private static void knows(Sentences s) {
        s.test(17, "by at most d times going on to who is AHEAD or IN THE LENS (he himself, too)", "d 0 .. 6 in a row of six", d -> {
            SeenFromBehind x = hillOf(EDGE, 0, 0, LEFT, EDGE, 0, 1, LEFT, EDGE, 0, 2, LEFT, EDGE, 0, 3, LEFT, EDGE, 0, 4, LEFT,
                EDGE, 0, 5, LEFT);
            int[] ofFirst = {1, 3, 7, 15, 31, 63, 63};
            int[] ofLast = {32, 48, 56, 60, 62, 63, 63};
            int[] ofThird = {4, 14, 31, 63, 63, 63, 63};
            for (int depth = 0; depth <= 6; depth++) {
                d.is("knows(0, " + depth + ")", x.knows(0, depth), ofFirst[depth]);
                d.is("knows(5, " + depth + ")", x.knows(5, depth), ofLast[depth]);
                d.is("knows(2, " + depth + ")", x.knows(2, depth), ofThird[depth]);
            }
        });
        s.test(17, "bits of those he comes to", "one alone comes to nobody", d -> {
            SeenFromBehind x = hillOf(VIEWER, 0, 0, LEFT, VIEWER, 0, 35, RIGHT);
            for (int depth = 0; depth <= 6; depth++) {
                d.is("knows(1, " + depth + ")", x.knows(1, depth), 2);
            }
        });
        s.test(17, "-1;", "one -1, 0, the last, the next", d -> onePerson(d, "knows(.., 1)", p -> x -> x.knows(p, 1)));
        s.test(17, "-4; -6 6.", "d -1, 0, 1, 5, 6, 7", d -> range(d, "knows, d", 0, -4, 6, -6, depth -> x -> x.knows(0, depth)));
        s.test(17, "-1; -4; -6 6.", "the order", d -> {
            refuses(d, Hills::lived, "knows(3, -1)", x -> x.knows(3, -1), -1);
            refuses(d, Hills::lived, "knows(3, 7)", x -> x.knows(3, 7), -1);
        });
    }

    /** A MASTER at 14 who FACES so, with GRINDERS beside him on some sides (bits). */
    private static SeenFromBehind beside(int sides, int faces) {
        SeenFromBehind x = hillOf(MASTER, 0, 14, faces);
        for (int way = 0; way < 4; way++) {
            if ((sides >> way & 1) == 1) {
                x.person(GRINDER, 0, cellFrom(14, way, 1), way);
            }
        }
        return x;
    }

    private static void safe(Sentences s) {
        s.test(18, "SAFE: FACES (bits 0 .. 3) by which nobody is IN THE LENS of one", "none, one, .. all four beside him", d -> {
            for (int sides = 0; sides < 16; sides++) {
                int behindSides = (sides << 2 | sides >> 2) & 15;
                for (int faces = 0; faces < 4; faces++) {
                    d.is("sides " + sides, beside(sides, faces).safe(0, 0), 15 & ~behindSides);
                }
            }
        });
        s.test(18, "BEST FACES: by which first somebody is AHEAD and nobody IN THE LENS, of several the least; -9.", "none, one, .. all four", d -> {
            // By bits: up 1, right 2, down 4, left 8.
            int[] best = {-9, 0, 1, 0, 2, -9, 1, 1, 3, 0, -9, 0, 2, 3, 2, -9};
            for (int sides = 0; sides < 16; sides++) {
                for (int faces = 0; faces < 4; faces++) {
                    d.is("sides " + sides, beside(sides, faces).safe(0, 1), best[sides]);
                }
            }
        });
        s.test(18, "nobody is IN THE LENS of one", "DEPTH away, 1 more", d -> {
            d.is("2 below", hillOf(VIEWER, 0, 2, UP, GRINDER, 0, 14, UP).safe(0, 0), 2 + 4 + 8);
            d.is("3 below", hillOf(VIEWER, 0, 2, UP, GRINDER, 0, 20, UP).safe(0, 0), 15);
            d.is("3 below, FIGURE 4", hillOf(VIEWER, 4, 2, UP, GRINDER, 0, 20, UP).safe(0, 0), 2 + 4 + 8);
        });
        s.test(18, "somebody is AHEAD and nobody IN THE LENS", "REACH away, 1 more", d -> {
            d.is("3 below", hillOf(VIEWER, 0, 2, UP, GRINDER, 0, 20, UP).safe(0, 1), DOWN);
            d.is("4 below", hillOf(VIEWER, 0, 2, UP, GRINDER, 0, 26, UP).safe(0, 1), -9);
            d.is("REACH 0", hillOf(GRINDER, 0, 2, UP, GRINDER, 0, 8, UP).safe(0, 1), -9);
        });
        s.test(18, "-1;", "one -1, 0, the last, the next", d -> {
            onePerson(d, "safe(.., 0)", p -> x -> x.safe(p, 0));
            onePerson(d, "safe(.., 1)", p -> x -> x.safe(p, 1));
        });
        s.test(18, "-2.", "what -1, 0, 1, 2", d -> range(d, "safe, what", 0, -2, 1, -2, what -> x -> x.safe(0, what)));
        s.test(18, "-1; -2.", "the order", d -> {
            refuses(d, Hills::lived, "safe(3, 2)", x -> x.safe(3, 2), -1);
            refuses(d, Hills::lived, "safe(-1, -1)", x -> x.safe(-1, -1), -1);
        });
    }

    private static void aloneIs(Due d, SeenFromBehind x, int many, int least) {
        d.is("alone(0, 0)", x.alone(0, 0), many);
        d.is("alone(0, 1)", x.alone(0, 1), least);
    }

    private static void alone(Sentences s) {
        s.test(19, "how many; the least; -9.", "no cell, one, 35", d -> {
            // Five MASTERS on a slant watch all to their right; below them the GRINDER has them in the lens.
            int[] slant = {MASTER, 0, 0, RIGHT, MASTER, 0, 7, RIGHT, MASTER, 0, 14, RIGHT, MASTER, 0, 21, RIGHT, MASTER, 0, 28, RIGHT};
            aloneIs(d, hillOf(with(slant, 35)), 0, -9);
            aloneIs(d, hillOf(with(slant, 34)), 1, 35);
            aloneIs(d, hillOf(with(slant, 1)), 1, 35);
            aloneIs(d, hillOf(VIEWER, 0, 35, UP), 35, 0);
            aloneIs(d, hillOf(VIEWER, 0, 0, UP), 35, 1);
        });
        s.test(19, "free CELLS", "where another one is, where he himself is", d -> {
            aloneIs(d, hillOf(EDGE, 0, 0, UP, GRINDER, 0, 1, UP, GRINDER, 0, 3, UP), 33, 2);
            aloneIs(d, hillOf(EDGE, 0, 2, UP, GRINDER, 0, 0, UP, GRINDER, 0, 1, UP), 33, 3);
        });
        s.test(19, "(FACING as now) nobody be IN THE LENS", "each DEPTH, each FACES", d -> {
            // As many cells before the other one as he looks deep have that one in the lens, if he is on that side at all.
            int[][] far = {{0, 2}, {4, 3}, {8, 4}};
            for (int[] f : far) {
                aloneIs(d, hillOf(VIEWER, f[0], 0, UP, GRINDER, 0, 35, UP), 34 - f[1], 1);
                aloneIs(d, hillOf(VIEWER, f[0], 0, LEFT, GRINDER, 0, 35, UP), 34 - f[1], 1);
                aloneIs(d, hillOf(VIEWER, f[0], 0, DOWN, GRINDER, 0, 35, UP), 34, 1);
                aloneIs(d, hillOf(VIEWER, f[0], 35, DOWN, GRINDER, 0, 0, UP), 34 - f[1], 1);
                aloneIs(d, hillOf(VIEWER, f[0], 35, RIGHT, GRINDER, 0, 0, UP), 34 - f[1], 1 + f[1]);
            }
        });
        s.test(19, "at which nobody would WATCH one", "each REACH", d -> {
            int[][] watched = {{VIEWER, 0, 3}, {GIRL, 0, 4}, {BORE, 0, 1}, {BORE, 2, 2}, {BORE, 8, 5}, {MASTER, 0, 5}, {GRINDER, 0, 0}};
            for (int[] w : watched) {
                aloneIs(d, hillOf(EDGE, 0, 35, DOWN, w[0], w[1], 0, RIGHT), 34 - 1 - w[2], w[2] == 5 ? 7 : 1 + w[2]);
            }
        });
        s.test(19, "-1;", "one -1, 0, the last, the next", d -> {
            onePerson(d, "alone(.., 0)", p -> x -> x.alone(p, 0));
            onePerson(d, "alone(.., 1)", p -> x -> x.alone(p, 1));
        });
        s.test(19, "-2.", "what -1, 0, 1, 2", d -> range(d, "alone, what", 0, -2, 1, -2, what -> x -> x.alone(0, what)));
        s.test(19, "-1; -2.", "the order", d -> {
            refuses(d, Hills::lived, "alone(3, 2)", x -> x.alone(3, 2), -1);
            refuses(d, Hills::lived, "alone(-1, -1)", x -> x.alone(-1, -1), -1);
        });
    }

    /** A GRINDER at a cell who faces down, and then the others. */
    private static int[] with(int[] others, int cell) {
        int[] all = new int[others.length + 4];
        all[0] = GRINDER;
        all[2] = cell;
        all[3] = DOWN;
        System.arraycopy(others, 0, all, 4, others.length);
        return all;
    }

    private static void turnAll(Sentences s) {
        s.test(20, "the fewest PEOPLE to be turned (each to any other FACES) so that nobody WATCHES anybody: how many", "0, 1, .. 6", d -> {
            d.is("none there", new SeenFromBehind().turnAll(), 0);
            int[] pairs = {VIEWER, 0, 0, RIGHT, VIEWER, 0, 1, LEFT, VIEWER, 0, 14, RIGHT, VIEWER, 0, 15, LEFT, VIEWER, 0, 28, RIGHT,
                VIEWER, 0, 29, LEFT};
            for (int many = 1; many <= 6; many++) {
                SeenFromBehind x = hillOf(java.util.Arrays.copyOf(pairs, 4 * many));
                d.is("the first " + many, x.turnAll(), many % 2 == 0 ? many : many - 1);
                x.turns(0, LEFT);
                d.is("one turned", x.turnAll(), Math.max(0, many % 2 == 0 ? many - 1 : many - 2));
            }
        });
        s.test(20, "-9 some one sees somebody all four ways.", "three ways, four", d -> {
            for (int open = 0; open < 4; open++) {
                for (int faces = 0; faces < 4; faces++) {
                    d.is("open to " + open, beside(15 & ~(1 << open), faces).turnAll(), faces == open ? 0 : 1);
                    d.is("none open", beside(15, faces).turnAll(), -9);
                }
            }
        });
        s.test(20, "-9 some one sees somebody all four ways.", "REACH 2, 3, 4 where 3 away is the farthest", d -> {
            int[][] want = {{2, 1}, {4, -9}, {6, -9}};
            for (int[] w : want) {
                SeenFromBehind x = hillOf(BORE, w[0], 14, UP, GRINDER, 0, 2, UP, GRINDER, 0, 17, UP, GRINDER, 0, 32, UP, GRINDER, 0, 12, UP);
                d.is("FIGURE " + w[0], x.turnAll(), w[1]);
            }
        });
        s.test(20, "-9 some one sees somebody all four ways.", "one of the last numbers does", d -> {
            SeenFromBehind x = hillOf(GRINDER, 0, 8, UP, GRINDER, 0, 15, UP, GRINDER, 0, 20, UP, GRINDER, 0, 13, UP, VIEWER, 0, 35, UP,
                VIEWER, 0, 14, UP);
            d.is("-9", x.turnAll(), -9);
            x.stands(0, 0);
            d.is("up is open, he must be left so", x.turnAll(), 0);
        });
        s.test(20, "TURN; -9.", "it but asks", d -> onlyAsks(d, Hills::lived, "turnAll()", SeenFromBehind::turnAll));
    }

    private static void post(Sentences s) {
        s.test(21, "POST: a newcomer of a KIND (FIGURE 5)", "his REACH: one at 35, the first cell from which he is seen", d -> {
            // REACH 3, 4, 3, 6, 0, 5; he looks down the last column, from as far above as he can.
            int[] want = {172, 112, 172, 52, -9, 52};
            for (int kind = 0; kind <= 5; kind++) {
                d.is("post(" + kind + ")", hillOf(GRINDER, 0, 35, UP).post(kind), want[kind]);
            }
        });
        s.test(21, "POST: a newcomer of a KIND (FIGURE 5)", "his DEPTH: one ahead to the left, one behind", d -> {
            // DEPTH 3, 3, 4, 3, -, 1. At 1 he looks left at 0; the other one is 1 .. 4 behind him there.
            int[][] want = {
                {33, 43, 53, 13},
                {33, 43, 53, 13},
                {33, 43, 53, 60},
                {33, 43, 53, 13},
                {-9, -9, -9, -9},
                {33, 13, 13, 13},
            };
            for (int kind = 0; kind <= 5; kind++) {
                for (int far = 1; far <= 4; far++) {
                    SeenFromBehind x = hillOf(GRINDER, 0, 0, UP, GRINDER, 0, 1 + far, UP);
                    d.is("post(" + kind + "), " + far + " behind", x.post(kind), want[kind][far - 1]);
                }
            }
        });
        s.test(21, "nobody WATCHES him", "REACH 4, 3 of the one who would", d -> {
            d.is("a GIRL looks up the last column", hillOf(GIRL, 0, 35, UP).post(GIRL), 311);
            d.is("a VIEWER does", hillOf(VIEWER, 0, 35, UP).post(GIRL), 112);
        });
        s.test(21, "the free CELL and FACES (10 the CELL and the FACES)", "the first cell is taken, is free", d -> {
            d.is("free", hillOf(GRINDER, 0, 1, UP).post(VIEWER), 1);
            d.is("taken", hillOf(GRINDER, 0, 0, UP).post(VIEWER), 13);
        });
        s.test(21, "of several the least; -9.", "two FACES, none there", d -> {
            d.is("right or down", hillOf(GRINDER, 0, 1, UP, GRINDER, 0, 6, UP).post(VIEWER), 1);
            d.is("down alone", hillOf(GRINDER, 0, 6, UP, GRINDER, 0, 35, UP).post(VIEWER), 2);
            for (int kind = 0; kind <= 5; kind++) {
                d.is("none there", new SeenFromBehind().post(kind), -9);
                d.is("a GRINDER", hillOf(kind, 9, 14, UP).post(GRINDER), -9);
            }
        });
        s.test(21, "-2;", "KIND -1, 0, 5, 6", d -> range(d, "post", 0, -2, 5, -2, kind -> x -> x.post(kind)));
        s.test(21, "-3 6 there are.", "5, 6 there are", d -> {
            SeenFromBehind x = hillOf(0, 0, 35, UP, 0, 0, 34, UP, 0, 0, 33, UP, 0, 0, 32, UP, 0, 0, 31, UP);
            d.is("5", x.post(MASTER), 12);
            d.is("how many", x.count(0), 5);
            x.person(0, 0, 30, UP);
            d.is("6", x.post(MASTER), -3);
            for (int kind = 0; kind <= 5; kind++) {
                int k = kind;
                refuses(d, Hills::livedInCrowd, "post(" + k + "), 6 there", y -> y.post(k), -3);
            }
        });
        s.test(21, "-2; -3 6 there are.", "the order", d -> {
            refuses(d, Hills::livedInCrowd, "post(6), 6 there", x -> x.post(6), -2);
            refuses(d, Hills::livedInCrowd, "post(-1), 6 there", x -> x.post(-1), -2);
        });
    }

    private static void whichIs(Due d, SeenFromBehind x, int kinds, int figures, int faces) {
        int[] want = {kinds, figures, faces};
        for (int what = 0; what < 3; what++) {
            d.is("which(0, " + what + ")", x.which(0, what), want[what]);
        }
    }

    private static void which(Sentences s) {
        s.test(22, "a ROW tells FACES of one behind 0, 1, .. NIGHTS", "none, 1, 2, 11, 12 told", d -> {
            SeenFromBehind x = withGrinderBehind(MASTER);
            whichIs(d, x, 63, 1023, 15);
            x.row(0);
            whichIs(d, x, 63, 1023, 1);
            x.row(2);
            whichIs(d, x, 8, 1023, 1);
            for (int i = 3; i <= 12; i++) {
                x.row(2);
                d.is("told", x.count(6), i);
                whichIs(d, x, 8, 1023, 1);
            }
            x = masterBetween();
            for (int i = 0; i < 11; i++) {
                x.row(i % 2 == 0 ? 0 : 2);
                whichIs(d, x, i == 0 ? 63 : 8, 1023, 1);
            }
            x.row(0);
            whichIs(d, x, 0, 0, 0);
        });
        s.test(22, "a ROW tells FACES of one behind 0, 1, .. NIGHTS", "numbers that are no FACES: 4, 99; FACES 0 .. 3", d -> {
            for (int v = 0; v <= 99; v++) {
                SeenFromBehind x = hillOf(GIRL, 0, 14, LEFT);
                x.row(v);
                whichIs(d, x, v == LEFT ? 63 : 0, v == LEFT ? 1023 : 0, v < 4 ? 1 << v : 0);
            }
        });
        s.test(22, "FIGURES (bits 0 .. 9)", "one 2, 3, 4, 5 behind", d -> {
            // A MASTER's DEPTH is 2 with a FIGURE below 4, 3 below 8, 4 with 8 and 9.
            int[] turned = {1023, 1023, 1008, 768, 0};
            for (int far = 1; far <= 5; far++) {
                SeenFromBehind x = hillOf(MASTER, 0, 2, UP, GRINDER, 0, 2 + 6 * far, RIGHT);
                tellRow(x, UP, DOWN);
                d.is(far + " behind, round", x.which(0, 1), turned[far - 1]);
                tellRow(x, UP, UP);
                d.is(far + " behind, not", x.which(0, 1), 1023 - turned[far - 1]);
            }
        });
        s.test(22, "KINDS (bits) by which it is so", "round, to the right, as he was", d -> {
            SeenFromBehind x = twoViewers();
            tellRow(x, UP, DOWN);
            d.is("round: VIEWER, MASTER", x.which(0, 0), 1 + 8);
            tellRow(x, UP, RIGHT);
            d.is("right: GIRL", x.which(0, 0), 2);
            tellRow(x, UP, UP);
            d.is("as he was: BORE, GRINDER, EDGE", x.which(0, 0), 4 + 16 + 32);
        });
        s.test(22, "FACES at first (bits 0 .. 3)", "each one", d -> {
            for (int faces = 0; faces < 4; faces++) {
                SeenFromBehind x = beside(15, UP);
                tellRow(x, faces, opposite(faces), faces);
                d.is("he faced " + faces, x.which(0, 2), 1 << faces);
            }
        });
        s.test(22, "WHICH by the ROW (it stays)", "it but asks", d -> {
            SeenFromBehind x = masterBetween();
            tellRow(x, 0, 2, 0);
            for (int i = 0; i < 3; i++) {
                whichIs(d, x, 8, 1023, 1);
                d.is("count(6)", x.count(6), 3);
            }
        });
        s.test(22, "-1;", "one -1, 0, the last, the next", d -> {
            for (int what = 0; what <= 2; what++) {
                int w = what;
                onePerson(d, "which(.., " + w + ")", p -> x -> x.which(p, w));
            }
        });
        s.test(22, "-2.", "what -1, 0, 2, 3", d -> range(d, "which, what", 0, -2, 2, -2, what -> x -> x.which(0, what)));
        s.test(22, "-1; -2.", "the order", d -> {
            refuses(d, Hills::lived, "which(3, 3)", x -> x.which(3, 3), -1);
            refuses(d, Hills::lived, "which(-1, -1)", x -> x.which(-1, -1), -1);
        });
    }

    private static void bestStep(Sentences s) {
        s.test(23, "a CELL up, right, down, left (0 .. 3; free, on the hill)", "alone on each cell, corners and rims", d -> {
            for (int cell = 0; cell < 36; cell++) {
                int want = cell >= 6 ? UP : cell % 6 < 5 ? RIGHT : DOWN;
                d.is("at " + cell, hillOf(GRINDER, 0, cell, UP).bestStep(0), want);
            }
        });
        s.test(23, "a CELL up, right, down, left (0 .. 3; free, on the hill)", "cells taken, one by one", d -> {
            SeenFromBehind x = hillOf(GRINDER, 0, 14, UP);
            int[] taken = {8, 15, 20, 13};
            for (int i = 0; i < 4; i++) {
                d.is(i + " taken", x.bestStep(0), i);
                x.person(GRINDER, 0, taken[i], UP);
            }
            d.is("all taken", x.bestStep(0), 4);
        });
        s.test(23, "free, on the hill", "at each cell with all cells beside it taken, all but one", d -> {
            for (int cell = 0; cell < 36; cell++) {
                for (int open = 0; open <= 4; open++) {
                    SeenFromBehind x = hillOf(GRINDER, 0, cell, UP);
                    int want = 4;
                    for (int way = 0; way < 4; way++) {
                        int beside = cellFrom(cell, way, 1);
                        boolean on = way % 2 == 0 ? beside >= 0 && beside < 36 : beside >= 0 && beside / 6 == cell / 6;
                        if (on && way == open) {
                            want = open;
                        } else if (on) {
                            x.person(GRINDER, 0, beside, UP);
                        }
                    }
                    d.is("at " + cell + ", open " + open, x.bestStep(0), want);
                }
            }
        });
        s.test(23, "at which fewest WATCH him, of several the least (staying last)", "staying as good, 1 better, 1 worse", d -> {
            SeenFromBehind x = hillOf(GRINDER, 0, 0, UP, VIEWER, 0, 7, UP, VIEWER, 0, 18, UP);
            d.is("1 everywhere", x.bestStep(0), RIGHT);
            x = hillOf(GRINDER, 0, 0, UP, VIEWER, 0, 7, UP, VIEWER, 0, 24, UP);
            d.is("0 staying, 1 right, 1 down", x.bestStep(0), 4);
            x = hillOf(GRINDER, 0, 0, UP, GRINDER, 0, 7, UP, VIEWER, 0, 18, UP);
            d.is("1 staying, 0 right, 1 down", x.bestStep(0), RIGHT);
            x = hillOf(GRINDER, 0, 0, UP, VIEWER, 0, 2, LEFT, GRINDER, 0, 35, UP);
            d.is("1 staying, 1 right, 0 down", x.bestStep(0), DOWN);
        });
        s.test(23, "at which fewest WATCH him", "REACH away, 1 more", d -> {
            // The one at 17 looks left: a VIEWER to 14, a GIRL to 13. He at 13 stays or steps to 14 or 12; up and down are taken.
            d.is("a VIEWER", hillOf(GRINDER, 0, 13, UP, VIEWER, 0, 17, LEFT, GRINDER, 0, 7, UP, GRINDER, 0, 19, UP).bestStep(0), LEFT);
            d.is("a GIRL", hillOf(GRINDER, 0, 13, UP, GIRL, 0, 17, LEFT, GRINDER, 0, 7, UP, GRINDER, 0, 19, UP).bestStep(0), LEFT);
            d.is("a BORE, REACH 2", hillOf(GRINDER, 0, 13, UP, BORE, 2, 17, LEFT, GRINDER, 0, 7, UP, GRINDER, 0, 19, UP).bestStep(0), RIGHT);
            d.is("a GIRL, left taken", hillOf(GRINDER, 0, 13, UP, GIRL, 0, 17, LEFT, GRINDER, 0, 7, UP, GRINDER, 0, 19, UP,
                GRINDER, 0, 12, UP).bestStep(0), RIGHT);
            d.is("a VIEWER, left taken", hillOf(GRINDER, 0, 13, UP, VIEWER, 0, 17, LEFT, GRINDER, 0, 7, UP, GRINDER, 0, 19, UP,
                GRINDER, 0, 12, UP).bestStep(0), 4);
        });
        s.test(23, "-1.", "one -1, 0, the last, the next", d -> onePerson(d, "bestStep", p -> x -> x.bestStep(p)));
    }

    private static void two(Sentences s) {
        s.test(24, "another one stays (4) or steps (0 .. 3 as above)", "in each corner, on each rim, unseen", d -> {
            // From 27 the EDGE sees 3 and 24: there the other one does not step.
            int[][] want = {{0, 1}, {2, 2}, {5, 2}, {17, 0}, {30, 1}, {12, 0}};
            for (int[] w : want) {
                d.is("at " + w[0], hillOf(EDGE, 0, 27, DOWN, GRINDER, 0, w[0], UP).two(0, 1), w[1]);
            }
        });
        s.test(24, "another one stays (4) or steps (0 .. 3 as above)", "each cell taken: he can but stay", d -> {
            d.is("ahead or in the lens", hillOf(VIEWER, 0, 6, UP, GRINDER, 0, 0, UP, GRINDER, 0, 1, UP).two(0, 1), 4);
            d.is("by the lens first", hillOf(VIEWER, 0, 1, UP, GRINDER, 0, 0, UP, GRINDER, 0, 6, UP).two(0, 1), 14);
            d.is("not seen at all", hillOf(VIEWER, 0, 35, UP, GRINDER, 0, 0, UP, GRINDER, 0, 1, UP, GRINDER, 0, 6, UP).two(0, 1), 4);
        });
        s.test(24, "the first would have the other AHEAD or IN THE LENS", "his REACH and DEPTH, 2, 3, 4 away", d -> {
            // He at 0 stays or steps right, to 1; 6 is taken. By LEFT (3) the first looks ahead, by RIGHT (1) through the lens.
            int[][] want = {
                // kind, figure, cell, pair
                {VIEWER, 0, 2, 11}, {VIEWER, 0, 3, 31}, {VIEWER, 4, 3, 11}, {VIEWER, 0, 4, 4}, {VIEWER, 4, 4, 4}, {VIEWER, 8, 4, 11},
                {GIRL, 0, 4, 31}, {GIRL, 0, 5, 4}, {MASTER, 0, 5, 31}, {BORE, 0, 2, 11}, {BORE, 0, 3, 11}, {BORE, 0, 4, 4},
                {GRINDER, 0, 5, 11}, {EDGE, 0, 2, 31}, {EDGE, 0, 4, 31}, {EDGE, 0, 5, 4}, {EDGE, 3, 5, 31},
            };
            for (int[] w : want) {
                SeenFromBehind x = hillOf(w[0], w[1], w[2], UP, GRINDER, 0, 0, UP, GRINDER, 0, 6, UP);
                d.is("KIND " + w[0] + ", FIGURE " + w[1] + ", at " + w[2], x.two(0, 1), w[3]);
            }
        });
        s.test(24, "neither has better by another choice alone", "he who sees him there, but not one cell farther", d -> {
            // A BORE with FIGURE 0 sees 1 ahead and 3 behind: looking up he has the other one at 8, who steps up then, to 2.
            d.is("looking down he has both", hillOf(BORE, 0, 14, UP, GRINDER, 0, 8, UP, GRINDER, 0, 7, UP, GRINDER, 0, 9, UP).two(0, 1), 20);
            d.is("up is taken", hillOf(BORE, 0, 14, UP, GRINDER, 0, 8, UP, GRINDER, 0, 7, UP, GRINDER, 0, 9, UP, GRINDER, 0, 2, UP).two(0, 1), 4);
            // A VIEWER sees 3 ahead and 2 behind: by RIGHT he has 2 away, and 3 away, too; by LEFT but the nearer one.
            d.is("to the left", hillOf(VIEWER, 0, 12, UP, GRINDER, 0, 14, UP, GRINDER, 0, 8, UP, GRINDER, 0, 20, UP).two(0, 1), 11);
            d.is("one farther", hillOf(VIEWER, 0, 12, UP, GRINDER, 0, 15, UP, GRINDER, 0, 9, UP, GRINDER, 0, 21, UP).two(0, 1), 1);
        });
        s.test(24, "the first pair (10 the first's and the other's)", "beside him on each side, free to step aside, or but to one side", d -> {
            int[] want = {RIGHT, UP, RIGHT, UP};
            int[] wantIfTaken = {LEFT, DOWN, LEFT, DOWN};
            for (int way = 0; way < 4; way++) {
                int cell = cellFrom(14, way, 1);
                SeenFromBehind x = hillOf(VIEWER, 0, 14, UP, GRINDER, 0, cell, UP);
                d.is("free, way " + way, x.two(0, 1), want[way]);
                x.person(GRINDER, 0, cellFrom(cell, want[way], 1), UP);
                d.is("one side taken, way " + way, x.two(0, 1), wantIfTaken[way]);
            }
        });
        s.test(24, "the first pair (10 the first's and the other's)", "how they stand now does not matter to FACES", d -> {
            for (int faces = 0; faces < 4; faces++) {
                d.is("he steps aside", hillOf(VIEWER, 0, 14, faces, VIEWER, 0, 20, faces).two(0, 1), RIGHT);
                d.is("the other way round", hillOf(VIEWER, 0, 14, faces, VIEWER, 0, 20, faces).two(1, 0), RIGHT);
            }
        });
        s.test(24, "by which neither has better by another choice alone; -9.", "each answer is such a pair; -9 can't come", d -> {
            // The FACES that sees farthest sees all of his CELLS that are seen at all, so there is always such a pair.
            for (int cell = 0; cell < 36; cell++) {
                for (int kind = 0; kind <= 5 && cell != 14; kind++) {
                    SeenFromBehind x = hillOf(kind, 3, 14, UP, GRINDER, 0, cell, UP);
                    int pair = x.two(0, 1);
                    d.holds("two(0, 1) answered " + pair, pair >= 0 && pair / 10 <= 3 && pair % 10 <= 4);
                }
            }
        });
        s.test(24, "-1 either (one twice).", "each one: -1, 0, the last, the next", d -> {
            onePerson(d, "two(.., 1 or 0)", p -> x -> x.two(p, p == 1 ? 0 : 1));
            onePerson(d, "two(1 or 0, ..)", p -> x -> x.two(p == 1 ? 0 : 1, p));
        });
        s.test(24, "-1 either (one twice).", "the same one, one who isn't there twice", d -> {
            for (int p = -1; p <= 3; p++) {
                int one = p;
                refuses(d, Hills::lived, "two(" + p + ", " + p + ")", x -> x.two(one, one), -1);
            }
        });
    }

    private static void likely(Due d, SeenFromBehind x, int f, int n, int t, long above, long below) {
        String call = "slept(0, " + f + ", " + n + ", " + t + ", ";
        d.is(call + "0)", x.slept(0, f, n, t, 0), above);
        d.is(call + "1)", x.slept(0, f, n, t, 1), below);
    }

    private static void slept(Sentences s) {
        s.test(25, "in each of n NIGHTS (0 .. 8)", "0, 1, 7, 8 NIGHTS", d -> {
            SeenFromBehind x = withGrinderBehind(MASTER);
            likely(d, x, UP, 0, 2, 1, 1);
            likely(d, x, DOWN, 0, 2, 0, 1);
            likely(d, x, UP, 1, 2, 1, 2);
            likely(d, x, DOWN, 1, 2, 1, 2);
            likely(d, x, UP, 7, 2, 1, 128);
            likely(d, x, DOWN, 7, 2, 127, 128);
            likely(d, x, UP, 8, 2, 1, 256);
            likely(d, x, DOWN, 8, 2, 255, 256);
        });
        s.test(25, "with odds 1 in t (2 .. 20)", "2, 3, 19, 20", d -> {
            SeenFromBehind x = withGrinderBehind(MASTER);
            for (int t : new int[] {2, 3, 19, 20}) {
                likely(d, x, UP, 1, t, 1, t);
                likely(d, x, DOWN, 1, t, t - 1, t);
            }
            likely(d, x, UP, 8, 20, 1, 25600000000L);
            likely(d, x, DOWN, 8, 20, 25599999999L, 25600000000L);
            likely(d, x, DOWN, 8, 19, 16983563040L, 16983563041L);
        });
        s.test(25, "(Fractions are told in lowest terms; 0 as 0 over 1.)", "0, 1, some that can be cut", d -> {
            SeenFromBehind x = masterBetween();
            likely(d, x, RIGHT, 8, 20, 0, 1);
            likely(d, x, LEFT, 0, 2, 0, 1);
            likely(d, x, UP, 2, 2, 1, 2);
            likely(d, x, UP, 2, 4, 5, 8);
            likely(d, x, UP, 2, 3, 5, 9);
            likely(d, hillOf(MASTER, 0, 14, UP), UP, 8, 20, 1, 1);
            likely(d, hillOf(MASTER, 0, 14, UP), DOWN, 8, 20, 0, 1);
        });
        s.test(25, "one sleeps (he does nothing then)", "the others do not sleep", d -> {
            // The VIEWER turns round on the first night only, for then the GIRL who watches him turns away.
            SeenFromBehind x = hillOf(VIEWER, 0, 14, UP, GIRL, 0, 20, UP, GRINDER, 0, 26, RIGHT);
            likely(d, x, DOWN, 1, 5, 4, 5);
            likely(d, x, DOWN, 8, 5, 4, 5);
            likely(d, x, UP, 8, 5, 1, 5);
        });
        s.test(25, "Of longs 4000000000000000000 less them (-1 as 4000000000000000001)", "each refusal of slept", d -> {
            SeenFromBehind x = withGrinderBehind(GIRL);
            d.is("-1", x.slept(2, 0, 1, 2, 0), 4000000000000000001L);
            d.is("-4", x.slept(0, 0, -1, 2, 0), 4000000000000000004L);
            d.is("-6", x.slept(0, 0, 9, 2, 0), 4000000000000000006L);
            d.is("-2", x.slept(0, 0, 1, 2, 2), 4000000000000000002L);
            refused(d, x, 1, 1, 0, 1, 0, 1);
        });
        s.test(25, "-1 (one, FACES);", "one -1, 0, the last, the next", d -> {
            for (int one : new int[] {MIN, -1, 3, MAX}) {
                refuses(d, Hills::lived, "slept, one " + one, x -> x.slept(one, 0, 1, 2, 0), LONG_REFUSAL + 1);
            }
            onlyAsks(d, Hills::lived, "slept, one 0", x -> x.slept(0, 0, 1, 2, 0));
            onlyAsks(d, Hills::lived, "slept, one 2", x -> x.slept(2, 0, 1, 2, 0));
            onlyAsks(d, Hills::livedInCrowd, "slept, one 5", x -> x.slept(5, 0, 1, 2, 0));
            refuses(d, Hills::livedInCrowd, "slept, one 6", x -> x.slept(6, 0, 1, 2, 0), LONG_REFUSAL + 1);
        });
        s.test(25, "-1 (one, FACES);", "FACES -1, 0, 3, 4", d ->
            range(d, "slept, FACES", 0, LONG_REFUSAL + 1, 3, LONG_REFUSAL + 1, f -> x -> x.slept(0, f, 1, 2, 0)));
        s.test(25, "-4 (n below 0, t below 2); -6 (8; 20);", "n -1, 0, 1, 7, 8, 9", d ->
            range(d, "slept, n", 0, LONG_REFUSAL + 4, 8, LONG_REFUSAL + 6, n -> x -> x.slept(0, 0, n, 2, 0)));
        s.test(25, "-4 (n below 0, t below 2); -6 (8; 20);", "t 1, 2, 3, 19, 20, 21", d ->
            range(d, "slept, t", 2, LONG_REFUSAL + 4, 20, LONG_REFUSAL + 6, t -> x -> x.slept(0, 0, 3, t, 0)));
        s.test(25, "part 0 above, 1 below the line", "part 0, 1", d -> likely(d, withGrinderBehind(GIRL), RIGHT, 1, 7, 6, 7));
        s.test(25, "-2.", "part -1, 0, 1, 2", d ->
            range(d, "slept, part", 0, LONG_REFUSAL + 2, 1, LONG_REFUSAL + 2, part -> x -> x.slept(0, 0, 3, 3, part)));
        s.test(25, "-1 (one, FACES); -4 (n below 0, t below 2); -6 (8; 20); -2.", "the order of each two", d -> {
            refuses(d, Hills::lived, "one, n below", x -> x.slept(3, 0, -1, 2, 0), LONG_REFUSAL + 1);
            refuses(d, Hills::lived, "one, t below", x -> x.slept(3, 0, 1, 1, 0), LONG_REFUSAL + 1);
            refuses(d, Hills::lived, "FACES, n below", x -> x.slept(0, 4, -1, 2, 0), LONG_REFUSAL + 1);
            refuses(d, Hills::lived, "FACES, t below", x -> x.slept(0, -1, 1, 1, 0), LONG_REFUSAL + 1);
            refuses(d, Hills::lived, "one, n above", x -> x.slept(3, 0, 9, 2, 0), LONG_REFUSAL + 1);
            refuses(d, Hills::lived, "FACES, t above", x -> x.slept(0, 4, 1, 21, 0), LONG_REFUSAL + 1);
            refuses(d, Hills::lived, "one, part", x -> x.slept(-1, 0, 1, 2, 2), LONG_REFUSAL + 1);
            refuses(d, Hills::lived, "FACES, part", x -> x.slept(0, 4, 1, 2, -1), LONG_REFUSAL + 1);
            refuses(d, Hills::lived, "n below, t above", x -> x.slept(0, 0, -1, 21, 0), LONG_REFUSAL + 4);
            refuses(d, Hills::lived, "n above, t below", x -> x.slept(0, 0, 9, 1, 0), LONG_REFUSAL + 4);
            refuses(d, Hills::lived, "n below, part", x -> x.slept(0, 0, -1, 2, 2), LONG_REFUSAL + 4);
            refuses(d, Hills::lived, "t below, part", x -> x.slept(0, 0, 1, 1, 2), LONG_REFUSAL + 4);
            refuses(d, Hills::lived, "n above, part", x -> x.slept(0, 0, 9, 2, 2), LONG_REFUSAL + 6);
            refuses(d, Hills::lived, "t above, part", x -> x.slept(0, 0, 1, 21, -1), LONG_REFUSAL + 6);
        });
    }
}
