/** Promises 1 to 9, each sentence whole: who comes, letters, nights, what is changed and taken back. */
final class WholeOfPeople extends Hills {

    private WholeOfPeople() {
    }

    static void test(Sentences s) {
        s.whole(1, WholeOfPeople::lastCall,
            "An object is used for at most 512 calls after it has been made; what later calls answer is free.");
        s.whole(2, WholeOfPeople::letters, "A letter comes: how many there are. -4; -6 (255; 96, too).");
        hill(s);
        s.whole(4, WholeOfPeople::personOf, "Of one: KIND (what 0), FIGURE (1), CELL (2), FACES (3), STARTS (4), REACH (5), DEPTH (6). -1; -2.");
        s.whole(5, WholeOfPeople::people, "PEOPLE 0 .. 5 as they come (6 at most), of KINDS: 0 VIEWER; 1 GIRL under VIEWER; 2 BORE under"
            + " VIEWER; 3 MASTER under VIEWER; 4 GRINDER under BORE; 5 EDGE under GIRL: a FIGURE (0 .. 9), a CELL (no two in one), FACES,"
            + " STARTS (how often he saw somebody in the lens by night, 0 .. 99; 0 at first).");
        s.whole(6, WholeOfPeople::turns, "He FACES so: how he did. -1 either.");
        s.whole(7, WholeOfPeople::stands, "He is in a CELL: where he was. -1 either; -3 somebody is there (he himself, too).");
        s.whole(8, WholeOfPeople::nights, "A NIGHT: NIGHT is 1 more; then PEOPLE by numbers: who has somebody IN THE LENS (as all is then)"
            + " STARTS (1 more), and then: VIEWER turns round (FACES 2 more, modulo 4), if that one WATCHES him, else nothing; GIRL turns"
            + " right (FACES 1 more, modulo 4); BORE steps a CELL back (the other way than he FACES), if that is on the hill and nobody is"
            + " there; MASTER turns round; GRINDER nothing; EDGE steps a CELL ahead, if that is on the hill and nobody is there.");
        s.whole(8, WholeOfPeople::nightsByNumber, "VIEWER turns round (FACES 2 more, modulo 4), if that one WATCHES him, else nothing; GIRL turns"
            + " right (FACES 1 more, modulo 4); BORE steps a CELL back (the other way than he FACES), if that is on the hill and nobody is"
            + " there; MASTER turns round; GRINDER nothing; EDGE steps a CELL ahead, if that is on the hill and nobody is there.");
        s.whole(8, WholeOfPeople::starts, "STARTS (how often he saw somebody in the lens by night, 0 .. 99; 0 at first). NIGHT (0 .. 999; 0 at"
            + " first).");
        s.whole(9, WholeOfPeople::back, "What turns(), stands(), nights() changed can be TAKEN BACK (each that is not refused counts, also if"
            + " all stays as it was), the latest first, 8 at most (older ones no more; person(), a HILL without FAULT, restore(), where they"
            + " are not refused, leave none).");
    }

    private static void lastCall(Due d) {
        SeenFromBehind x = new SeenFromBehind();
        x.person(GRINDER, 0, 14, UP);
        x.person(GRINDER, 0, 20, RIGHT);
        for (int call = 3; call <= 510; call++) {
            d.is("call " + call, x.allStarts(call % 61), call % 61);
        }
        d.is("call 511", x.nights(60), 60);
        d.is("call 512", x.personOf(0, 4), 60);
        SeenFromBehind refusing = new SeenFromBehind();
        for (int call = 1; call <= 511; call++) {
            refusing.back();
        }
        d.is("511 refused", refusing.count(13), 511);
    }

    private static void letters(Due d) {
        SeenFromBehind x = twoViewers();
        int many = 0;
        for (char letter : "f02;x;".toCharArray()) {
            many++;
            d.is("feed('" + letter + "')", x.feed(letter), many);
            d.is("count(5)", x.count(5), many);
        }
        stateIs(d, x, 0, 14, UP, 0);
    }

    private static void hill(Sentences s) {
        String text = "p30082;p09201;f00;c114;n01;";
        s.whole(3, d -> {
            SeenFromBehind x = new SeenFromBehind();
            told(d, x, text, 5);
            d.is("how many", x.count(0), 2);
            d.is("KIND", x.personOf(0, 0), MASTER);
            d.is("FIGURE", x.personOf(0, 1), 0);
            d.is("KIND", x.personOf(1, 0), VIEWER);
            d.is("FIGURE", x.personOf(1, 1), 9);
            // Faced up, with the other one set behind him, the MASTER starts in the night and turns round.
            stateIs(d, x, 0, 8, DOWN, 1);
            stateIs(d, x, 1, 14, RIGHT, 0);
            d.is("NIGHT", x.count(1), 1);
        }, "A HILL is told in letters, one by one (96 at most): STATEMENTS, each with \";\" behind: \"p\" KIND, FIGURE (a digit each), CELL"
            + " (2 digits), FACES (a digit): one more; \"f\" one, FACES (a digit each): he FACES so; \"c\" one (a digit), a CELL (2 digits):"
            + " he is there; \"n\" NIGHTS (2 digits, 1 .. 60): they go by. At least one STATEMENT.");
        s.whole(3, d -> {
            told(d, eachKind(), "", -1000);
            told(d, eachKind(), "f03;c600;n61;p", -1014);
            told(d, eachKind(), "f03;c600;n61;px", -1014);
            told(d, eachKind(), "f03;c600;n61;", -2004);
            told(d, eachKind(), "f03;c500;n61;", -2009);
            told(d, eachKind(), "f03;c500;n60;p00350;", -2013);
            told(d, eachKind(), "f03;c500;n60;c500;", -2013);
            SeenFromBehind x = eachKind();
            told(d, x, "f03;c500;n60;c5000", -1017);
            stateIs(d, x, 0, 12, UP, 0);
            stateIs(d, x, 5, 22, DOWN, 0);
            told(d, x, "f03;c500;", 2);
            stateIs(d, x, 0, 12, LEFT, 0);
            stateIs(d, x, 5, 0, DOWN, 0);
        }, "FAULT: kind 1 the place of the first letter with which no HILL can go on (the end, if something lacks): -1000 less the place; else"
            + " kind 2 the place of the first letter of the first STATEMENT that, behind all ahead of it in the text, is not as it must be (a"
            + " number out of range, no such one, a CELL where somebody is (he himself, too), NIGHT above 999, no room): -2000 less the"
            + " place. Without FAULT all of it comes, with one nothing.");
        s.whole(3, d -> {
            SeenFromBehind x = eachKind();
            for (int i = 0; i < 3; i++) {
                told(d, x, "n02;n01;", 2);
                d.is("letters", x.count(5), 0);
                told(d, x, "n02;n00;", -2004);
                d.is("letters", x.count(5), 0);
                told(d, x, "n02;n0", -1006);
                d.is("letters", x.count(5), 0);
                d.is("NIGHT", x.count(1), 3 * (i + 1));
            }
            refused(d, x, 0, 0, 0, 0, 0, 0);
        }, "The letters, which are no more then (with a FAULT neither), are a HILL: how many STATEMENTS; the FAULT (nothing is counted).");
    }

    private static void personOf(Due d) {
        int[][] people = {{VIEWER, 9, 35, LEFT}, {GIRL, 1, 0, RIGHT}, {BORE, 6, 3, DOWN}, {MASTER, 4, 30, UP}, {GRINDER, 7, 17, RIGHT},
            {EDGE, 8, 20, LEFT}};
        SeenFromBehind x = new SeenFromBehind();
        for (int[] one : people) {
            x.person(one[0], one[1], one[2], one[3]);
        }
        for (int p = 0; p < 6; p++) {
            int kind = people[p][0];
            int figure = people[p][1];
            int[] want = {kind, figure, people[p][2], people[p][3], 0, REACH[kind][figure], DEPTH[kind][figure]};
            for (int what = 0; what <= 6; what++) {
                d.is("personOf(" + p + ", " + what + ")", x.personOf(p, what), want[what]);
            }
        }
        SeenFromBehind later = eachKind(3);
        ofEach(d, "STARTS", p -> later.personOf(p, 4), 3, 2, 3, 1, 3, 1);
    }

    private static void people(Due d) {
        SeenFromBehind x = eachKind();
        ofEach(d, "KIND", p -> x.personOf(p, 0), 0, 1, 2, 3, 4, 5);
        ofEach(d, "FIGURE", p -> x.personOf(p, 1), 0, 0, 0, 0, 0, 0);
        ofEach(d, "REACH", p -> x.personOf(p, 5), 3, 4, 1, 6, 0, 4);
        ofEach(d, "DEPTH", p -> x.personOf(p, 6), 2, 2, 3, 2, 6, 1);
        for (int p = 0; p < 6; p++) {
            int[] one = EACH_KIND_BY_NIGHT[0][p];
            stateIs(d, x, p, one[0], one[1], one[2]);
        }
        d.is("one more in one's CELL", hillOf(GIRL, 5, 7, UP).person(GIRL, 5, 7, UP), -3);
    }

    private static void turns(Due d) {
        SeenFromBehind x = eachKind();
        ofEach(d, "turns", p -> x.turns(p, p % 4), UP, DOWN, UP, DOWN, UP, DOWN);
        ofEach(d, "FACES", p -> x.personOf(p, 3), UP, RIGHT, DOWN, LEFT, UP, RIGHT);
        ofEach(d, "CELL", p -> x.personOf(p, 2), 12, 18, 8, 20, 16, 22);
        ofEach(d, "STARTS", p -> x.personOf(p, 4), 0, 0, 0, 0, 0, 0);
    }

    private static void stands(Due d) {
        SeenFromBehind x = eachKind();
        ofEach(d, "stands", p -> x.stands(p, 30 + p), 12, 18, 8, 20, 16, 22);
        ofEach(d, "CELL", p -> x.personOf(p, 2), 30, 31, 32, 33, 34, 35);
        ofEach(d, "FACES", p -> x.personOf(p, 3), UP, DOWN, UP, DOWN, UP, DOWN);
        ofEach(d, "stands there", p -> x.stands(p, 35 - p), -3, -3, -3, -3, -3, -3);
    }

    private static void nights(Due d) {
        SeenFromBehind x = eachKind();
        int[] allStarts = {0, 6, 10, 13, 15};
        for (int n = 0; n <= 4; n++) {
            if (n > 0) {
                d.is("nights(1)", x.nights(1), allStarts[n]);
            }
            d.is("NIGHT", x.count(1), n);
            d.is("all STARTS", x.count(2), allStarts[n]);
            for (int p = 0; p < 6; p++) {
                int[] one = EACH_KIND_BY_NIGHT[n][p];
                stateIs(d, x, p, one[0], one[1], one[2]);
            }
        }
        d.is("nights(4) at once", eachKind().nights(4), 15);
        // Not he behind him WATCHES the VIEWER, but one to the left; or he behind him WATCHES, but another one.
        x = hillOf(VIEWER, 0, 14, UP, GRINDER, 0, 20, RIGHT, VIEWER, 0, 13, RIGHT);
        d.is("WATCHED by another one", x.nights(1), 1);
        stateIs(d, x, 0, 14, UP, 1);
        x = hillOf(VIEWER, 0, 14, UP, VIEWER, 0, 20, RIGHT, GRINDER, 0, 22, DOWN);
        d.is("another one WATCHED", x.nights(1), 1);
        stateIs(d, x, 0, 14, UP, 1);
    }

    /** Whichever number he has, and whether the one behind him comes later or earlier. */
    private static void nightsByNumber(Due d) {
        int[][] want = {{14, DOWN}, {14, RIGHT}, {20, UP}, {14, DOWN}, {14, UP}, {8, UP}};
        for (int kind = 0; kind <= 5; kind++) {
            // He at the BORE's back leaves a CELL free between them; EDGEs see but one CELL deep.
            int behind = kind == BORE ? 26 : 20;
            for (int number = 0; number <= 5; number++) {
                SeenFromBehind x = withIdle(number == 5 ? 4 : number);
                if (number == 5) {
                    x.person(VIEWER, 0, behind, UP);
                }
                d.is("his number", x.person(kind, 0, 14, UP), number);
                if (number < 5) {
                    x.person(VIEWER, 0, behind, UP);
                }
                String one = "KIND " + kind + " as number " + number;
                d.is(one + ", STARTS", x.nights(1), 1);
                d.is(one + ", CELL", x.personOf(number, 2), want[kind][0]);
                d.is(one + ", FACES", x.personOf(number, 3), want[kind][1]);
                d.is(one + ", STARTS", x.personOf(number, 4), 1);
            }
        }
    }

    private static void starts(Due d) {
        SeenFromBehind x = eachKind();
        ofEach(d, "behind 60 NIGHTS, STARTS", p -> x.behind(p, 60, 2), 3, 2, 60, 1, 60, 1);
        x.nights(60);
        x.nights(60);
        ofEach(d, "behind 120 NIGHTS, STARTS", p -> x.personOf(p, 4), 3, 2, 99, 1, 99, 1);
        d.is("NIGHT", x.count(1), 120);
    }

    private static void back(Due d) {
        SeenFromBehind x = eachKind();
        x.turns(0, RIGHT);
        x.stands(5, 35);
        x.nights(3);
        x.turns(0, x.personOf(0, 3));
        x.turns(9, UP);
        d.is("count(7)", x.count(7), 4);
        d.is("the same FACES", x.back(), 3);
        d.is("NIGHT", x.count(1), 3);
        d.is("the NIGHTS", x.back(), 2);
        d.is("NIGHT", x.count(1), 0);
        stateIs(d, x, 0, 12, RIGHT, 0);
        stateIs(d, x, 1, 18, DOWN, 0);
        stateIs(d, x, 5, 35, DOWN, 0);
        d.is("the CELL", x.back(), 1);
        stateIs(d, x, 0, 12, RIGHT, 0);
        stateIs(d, x, 5, 22, DOWN, 0);
        d.is("the FACES", x.back(), 0);
        stateIs(d, x, 0, 12, UP, 0);
        d.is("none", x.back(), -3);
        for (int i = 0; i < 3; i++) {
            x.nights(1);
            d.is("one can be", x.count(7), 1);
            told(d, x, "f00;n00;", -2004);
            d.is("a HILL with FAULT leaves it", x.count(7), 1);
            told(d, x, "f00;", 1);
            d.is("a HILL leaves none", x.count(7), 0);
        }
    }
}
