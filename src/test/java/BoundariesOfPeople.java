/** Promises 1 to 9, on their boundaries: who comes, letters, nights, what is changed and taken back. */
final class BoundariesOfPeople extends Hills {

    private static final int LACKS = -1000;
    private static final int WRONG = -2000;

    private BoundariesOfPeople() {
    }

    static void test(Sentences s) {
        newObject(s);
        feed(s);
        hillLetters(s);
        hillStatements(s);
        hillComes(s);
        personOf(s);
        person(s);
        turns(s);
        stands(s);
        nights(s);
        kindsByNight(s);
        back(s);
    }

    private static void newObject(Sentences s) {
        s.test(1, "Nobody on the hill.", "no person 0, and none in any answer", BoundariesOfPeople::nobody);
        s.test(1, "NIGHT (0 .. 999; 0 at first)", "0 at first, 1 behind a night", d -> {
            SeenFromBehind x = new SeenFromBehind();
            d.is("NIGHT", x.count(1), 0);
            d.is("nights(1)", x.nights(1), 0);
            d.is("NIGHT", x.count(1), 1);
        });
        s.test(1, "0 .. 99; 0 at first", "STARTS of the first one", d -> {
            SeenFromBehind x = new SeenFromBehind();
            d.is("all STARTS", x.count(2), 0);
            x.person(GIRL, 9, 35, LEFT);
            d.is("personOf(0, 4)", x.personOf(0, 4), 0);
        });
        s.test(1, "Nobody on the hill.", "no letters, row, image, nothing to be taken back, no refusals", d -> {
            SeenFromBehind x = new SeenFromBehind();
            d.is("letters", x.count(5), 0);
            d.is("the row", x.count(6), 0);
            d.is("to be taken back", x.count(7), 0);
            refused(d, x, 0, 0, 0, 0, 0, 0);
            d.is("hill()", x.hill(), -1000);
            d.is("clear()", x.clear(), 0);
            d.is("back()", x.back(), -3);
            d.is("restore()", x.restore(), -3);
        });
        s.test(1, "Nobody on the hill.", "though another object has people", d -> {
            SeenFromBehind other = lived();
            d.is("count(0)", new SeenFromBehind().count(0), 0);
            d.is("the other one's", other.count(0), 3);
        });
    }

    private static void nobody(Due d) {
        SeenFromBehind x = new SeenFromBehind();
        d.is("count(0)", x.count(0), 0);
        for (int what = 0; what <= 6; what++) {
            d.is("personOf(0, " + what + ")", x.personOf(0, what), -1);
        }
        d.is("somebody AHEAD", x.count(3), 0);
        d.is("IN THE LENS", x.count(4), 0);
        for (int cell = 0; cell < 36; cell++) {
            d.is("CELL " + cell + " is free", new SeenFromBehind().person(VIEWER, 0, cell, UP), 0);
        }
    }

    private static void feed(Sentences s) {
        s.test(2, "A letter comes: how many there are.", "the 1st, 2nd, 95th, 96th", d -> {
            SeenFromBehind x = new SeenFromBehind();
            for (int i = 1; i <= 96; i++) {
                d.is("letter " + i, x.feed('f'), i);
                d.is("count(5)", x.count(5), i);
            }
        });
        s.test(2, "-4", "-1, 0, 1", d -> {
            refuses(d, Hills::lived, "feed(-1)", x -> x.feed(-1), -4);
            refuses(d, Hills::lived, "feed(least)", x -> x.feed(MIN), -4);
            d.is("feed(0)", lived().feed(0), 9);
            d.is("feed(1)", lived().feed(1), 9);
        });
        s.test(2, "-6 (255; 96, too).", "254, 255, 256", d -> {
            d.is("feed(254)", lived().feed(254), 9);
            d.is("feed(255)", lived().feed(255), 9);
            refuses(d, Hills::lived, "feed(256)", x -> x.feed(256), -6);
            refuses(d, Hills::lived, "feed(greatest)", x -> x.feed(MAX), -6);
        });
        s.test(2, "-6 (255; 96, too).", "95, 96 there are", d -> {
            SeenFromBehind x = withLetters(95);
            d.is("95 there", x.count(5), 95);
            d.is("the 96th", x.feed('n'), 96);
            refuses(d, () -> withLetters(96), "feed('n'), 96 there", y -> y.feed('n'), -6);
            refuses(d, () -> withLetters(96), "feed(0), 96 there", y -> y.feed(0), -6);
            refuses(d, () -> withLetters(96), "feed(255), 96 there", y -> y.feed(255), -6);
        });
        s.test(2, "-4; -6 (255; 96, too).", "the order, 96 there", d -> {
            refuses(d, () -> withLetters(96), "feed(-1), 96 there", x -> x.feed(-1), -4);
            refuses(d, () -> withLetters(96), "feed(256), 96 there", x -> x.feed(256), -6);
        });
        s.test(2, "96 at most", "room again behind hill()", d -> {
            SeenFromBehind x = withLetters(96);
            x.hill();
            d.is("feed(0)", x.feed(0), 1);
        });
    }

    /** Of one who has lived, with so many letters that tell him nothing but to face so. */
    private static SeenFromBehind withLetters(int many) {
        SeenFromBehind x = lived();
        x.hill();
        for (int i = 0; i < many; i++) {
            x.feed("f02;".charAt(i % 4));
        }
        return x;
    }

    /** Two people: 0 at 14, 1 at 20. */
    private static SeenFromBehind two() {
        return hillOf(VIEWER, 0, 14, UP, GRINDER, 0, 20, RIGHT);
    }

    private static void hillLetters(Sentences s) {
        String whatLetters = "kind 1 the place of the first letter with which no HILL can go on";
        s.test(3, whatLetters, "each letter 0 .. 255 where a STATEMENT begins", d -> {
            everyLetter(d, "", "pfcn", false);
            everyLetter(d, "f01;", "pfcn", false);
            everyLetter(d, "p00000;p00010;", "pfcn", false);
        });
        s.test(3, "\"p\" KIND, FIGURE (a digit each), CELL (2 digits), FACES (a digit)", "each letter at each place", d ->
            everyPlace(d, "p00000;"));
        s.test(3, "\"f\" one, FACES (a digit each)", "each letter at each place", d -> everyPlace(d, "f01;"));
        s.test(3, "\"c\" one (a digit), a CELL (2 digits)", "each letter at each place", d -> everyPlace(d, "c005;"));
        s.test(3, "\"n\" NIGHTS (2 digits, 1 .. 60)", "each letter at each place", d -> everyPlace(d, "n01;"));
        s.test(3, "At least one STATEMENT.", "none, one", d -> {
            told(d, new SeenFromBehind(), "", -1000);
            told(d, two(), "", -1000);
            told(d, two(), "f00;", 1);
        });
        s.test(3, "(the end, if something lacks)", "cut behind each letter", d -> {
            String text = "p00000;f01;c005;n01;";
            for (int end = 0; end < text.length(); end++) {
                boolean whole = end > 0 && text.charAt(end - 1) == ';';
                int statements = end < 8 ? 1 : end < 12 ? 2 : 3;
                told(d, two(), text.substring(0, end), whole ? statements : LACKS - end);
            }
            told(d, two(), text, 4);
        });
        s.test(3, "(the end, if something lacks)", "95 and 96 letters", d -> {
            String full = "f00;".repeat(24);
            told(d, two(), full.substring(0, 94), -1094);
            told(d, two(), full.substring(0, 95), -1095);
            told(d, two(), full, 24);
            told(d, two(), full.substring(0, 92) + "p000", -1096);
            told(d, two(), full.substring(0, 95) + "0", -1095);
        });
        s.test(3, "-1000 less the place", "the first place, the last one, the end of 96", d -> {
            told(d, two(), "x", -1000);
            told(d, two(), "f00;".repeat(23) + "x00;", -1092);
            told(d, two(), "f00;".repeat(23) + "f00x", -1095);
            told(d, two(), "f00;".repeat(23) + "f000", -1095);
            told(d, two(), "f00;".repeat(22) + "p0000000", -1094);
        });
        s.test(3, "else kind 2", "a FAULT of kind 1 behind one of kind 2 is told", d -> {
            told(d, two(), "f90;x", -1004);
            told(d, two(), "f90;f0", -1006);
            told(d, two(), "f90;f00", -1007);
            told(d, two(), "f90;f00;", -2000);
            told(d, two(), "p99999;n00;;", -1011);
        });
    }

    /** Each letter behind a beginning: with one of these the end lacks, with each other one it is the FAULT. */
    private static void everyLetter(Due d, String beginning, String fitting, boolean thenWhole) {
        int place = beginning.length();
        for (int letter = 0; letter <= 255; letter++) {
            int want = fitting.indexOf(letter) < 0 ? LACKS - place : LACKS - place - 1;
            if (thenWhole && want == LACKS - place - 1) {
                want = 1;
            }
            SeenFromBehind x = two();
            feedAll(x, beginning);
            x.feed(letter);
            d.is("hill() of \"" + beginning + "\" and letter " + letter, x.hill(), want);
        }
    }

    private static void everyPlace(Due d, String statement) {
        int last = statement.length() - 1;
        for (int place = 1; place < last; place++) {
            everyLetter(d, statement.substring(0, place), "0123456789", false);
        }
        everyLetter(d, statement.substring(0, last), ";", true);
    }

    private static void hillStatements(Sentences s) {
        s.test(3, "a number out of range", "KIND 0 .. 9, 5 the greatest", d -> {
            for (int kind = 0; kind <= 9; kind++) {
                told(d, two(), "p" + kind + "0000;", kind <= 5 ? 1 : WRONG);
                told(d, two(), "f00;p" + kind + "0000;", kind <= 5 ? 2 : WRONG - 4);
            }
        });
        s.test(3, "a number out of range", "FIGURE 0 .. 9, each fits", d -> {
            for (int figure = 0; figure <= 9; figure++) {
                SeenFromBehind x = two();
                told(d, x, "p0" + figure + "000;", 1);
                d.is("FIGURE", x.personOf(2, 1), figure);
            }
        });
        s.test(3, "a number out of range", "CELL 00 .. 99 of one more, 35 the greatest", d -> {
            for (int cell = 0; cell <= 99; cell++) {
                boolean free = cell <= 35 && cell != 14 && cell != 20;
                told(d, two(), "p00" + cell / 10 + cell % 10 + "0;", free ? 1 : WRONG);
            }
        });
        s.test(3, "a number out of range", "FACES 0 .. 9, 3 the greatest", d -> {
            for (int faces = 0; faces <= 9; faces++) {
                told(d, two(), "p0000" + faces + ";", faces <= 3 ? 1 : WRONG);
                told(d, two(), "f0" + faces + ";", faces <= 3 ? 1 : WRONG);
            }
        });
        s.test(3, "a number out of range", "CELL 00 .. 99 to be changed to, 35 the greatest", d -> {
            for (int cell = 0; cell <= 99; cell++) {
                boolean free = cell <= 35 && cell != 14 && cell != 20;
                told(d, two(), "c0" + cell / 10 + cell % 10 + ";", free ? 1 : WRONG);
            }
        });
        s.test(3, "\"n\" NIGHTS (2 digits, 1 .. 60)", "00 .. 99", d -> {
            for (int n = 0; n <= 99; n++) {
                SeenFromBehind x = two();
                told(d, x, "n" + n / 10 + n % 10 + ";", n >= 1 && n <= 60 ? 1 : WRONG);
                d.is("NIGHT", x.count(1), n >= 1 && n <= 60 ? n : 0);
            }
        });
        s.test(3, "no such one", "the last one, the next one, one who comes in the text", d -> {
            told(d, two(), "f10;", 1);
            told(d, two(), "f20;", -2000);
            told(d, two(), "f90;", -2000);
            told(d, two(), "c100;", 1);
            told(d, two(), "c200;", -2000);
            told(d, two(), "p00000;f23;c235;", 3);
            told(d, two(), "f20;p00000;", -2000);
            told(d, two(), "p00000;f30;", -2007);
            told(d, new SeenFromBehind(), "f00;", -2000);
            told(d, new SeenFromBehind(), "c000;", -2000);
        });
        s.test(3, "a CELL where somebody is (he himself, too)", "another one, he himself, one who has gone", d -> {
            told(d, two(), "p00140;", -2000);
            told(d, two(), "c014;", -2000);
            told(d, two(), "c020;", -2000);
            told(d, two(), "c120;", -2000);
            told(d, two(), "c015;p00140;", 2);
            told(d, two(), "c015;p00150;", -2005);
            told(d, two(), "c015;c114;", 2);
            told(d, two(), "p00000;p00000;", -2007);
        });
        s.test(3, "NIGHT above 999", "998, 999, 1000", d -> {
            SeenFromBehind x = after(two(), 990);
            told(d, x, "n05;n05;", -2004);
            told(d, x, "n10;", -2000);
            told(d, x, "n05;n03;", 2);
            d.is("NIGHT", x.count(1), 998);
            told(d, x, "n02;", -2000);
            told(d, x, "n01;", 1);
            d.is("NIGHT", x.count(1), 999);
            told(d, x, "n01;", -2000);
            told(d, x, "f00;n60;", -2004);
            d.is("NIGHT", x.count(1), 999);
        });
        s.test(3, "no room", "the 5th, 6th, 7th one", d -> {
            SeenFromBehind x = two();
            told(d, x, "p00000;p00010;", 2);
            told(d, x, "p00020;p00030;p00040;", -2014);
            d.is("none of them came", x.count(0), 4);
            told(d, x, "p00020;p00030;", 2);
            d.is("six", x.count(0), 6);
            told(d, x, "p00040;", -2000);
            told(d, x, "f50;", 1);
        });
        s.test(3, "the place of the first letter of the first STATEMENT", "of two that are wrong, at the first and the last place", d -> {
            told(d, two(), "f90;f90;", -2000);
            told(d, two(), "f00;f90;c014;", -2004);
            told(d, two(), "f00;".repeat(23) + "f90;", -2092);
            told(d, two(), "f00;".repeat(22) + "f90;f90;", -2088);
        });
        s.test(3, "-2000 less the place", "the first place, the last one that a STATEMENT can have", d -> {
            told(d, two(), "n00;", -2000);
            told(d, two(), "f00;n00;", -2004);
            told(d, two(), "f00;".repeat(23) + "n00;", -2092);
        });
        s.test(3, "behind all ahead of it in the text", "the nights ahead of it have gone by", d -> {
            // The BORE steps back from 8 to 14 in the first of them, so that 8 is free and 14 is not.
            told(d, steppingBore(), "n01;p00080;", 2);
            told(d, steppingBore(), "n01;p00140;", -2004);
            told(d, steppingBore(), "p00140;n01;", 2);
        });
    }

    private static void hillComes(Sentences s) {
        s.test(3, "how many STATEMENTS", "1, 2, 24", d -> {
            told(d, two(), "n01;", 1);
            told(d, two(), "n01;f00;", 2);
            told(d, two(), "f00;".repeat(24), 24);
        });
        s.test(3, "Without FAULT all of it comes", "each STATEMENT in its order", d -> {
            SeenFromBehind x = twoViewers();
            told(d, x, "p39353;f01;f00;n01;c105;f12;", 6);
            stateIs(d, x, 0, 14, DOWN, 1);
            stateIs(d, x, 1, 5, DOWN, 0);
            stateIs(d, x, 2, 35, LEFT, 0);
            d.is("KIND", x.personOf(2, 0), MASTER);
            d.is("FIGURE", x.personOf(2, 1), 9);
            d.is("NIGHT", x.count(1), 1);
            d.is("how many", x.count(0), 3);
        });
        s.test(3, "with one nothing", "a FAULT at the last letter, in the last STATEMENT", d -> {
            for (String text : new String[] {"p39353;f01;n01;c105;f12", "p39353;f01;n01;c105;f12x", "p39353;f01;n01;c105;f14;",
                "p39353;f01;n01;c105;c105;", "x", ""}) {
                d.holds("\"" + text + "\" changed something", tellingOf(behindHill(text)).equals(tellingOf(behindHill("n00;"))));
            }
        });
        s.test(3, "The letters, which are no more then (with a FAULT neither)", "without, kind 1, kind 2, none", d -> {
            for (String text : new String[] {"f00;", "f0", "f09;", "", "x".repeat(96)}) {
                SeenFromBehind x = two();
                tell(x, text);
                d.is("count(5) behind \"" + text + "\"", x.count(5), 0);
                d.is("hill() once more", x.hill(), -1000);
                told(d, x, "f11;", 1);
            }
        });
        s.test(3, "(nothing is counted)", "kind 1, kind 2", d -> {
            SeenFromBehind x = two();
            told(d, x, "f0", -1002);
            told(d, x, "f09;", -2000);
            told(d, x, "n00;", -2000);
            told(d, x, "c014;", -2000);
            refused(d, x, 0, 0, 0, 0, 0, 0);
        });
    }

    private static SeenFromBehind behindHill(String text) {
        SeenFromBehind x = lived();
        x.hill();
        x.turns(0, DOWN);
        x.turns(1, DOWN);
        tell(x, text);
        return x;
    }

    private static void personOf(Sentences s) {
        s.test(4, "KIND (what 0), FIGURE (1), CELL (2), FACES (3), STARTS (4)", "the least and the greatest of each", d -> {
            SeenFromBehind x = hillOf(VIEWER, 0, 0, UP, EDGE, 9, 35, LEFT);
            int[][] want = {{VIEWER, 0, 0, UP, 0}, {EDGE, 9, 35, LEFT, 0}};
            for (int p = 0; p < 2; p++) {
                for (int what = 0; what < 5; what++) {
                    d.is("personOf(" + p + ", " + what + ")", x.personOf(p, what), want[p][what]);
                }
            }
        });
        s.test(4, "REACH: VIEWER 3; GIRL 1 more; BORE 1 plus (FIGURE over 2, cut); MASTER twice a VIEWER's; GRINDER 0; EDGE FIGURE over 3,"
            + " cut, more than a GIRL's.", "each KIND with each FIGURE", d -> everyFigure(d, 5, REACH));
        s.test(4, "DEPTH: VIEWER 2 plus (FIGURE over 4, cut); BORE 1 more; GRINDER twice a BORE's; EDGE 1; others as what they are under.",
            "each KIND with each FIGURE", d -> everyFigure(d, 6, DEPTH));
        s.test(4, "0 .. 99; 0 at first", "STARTS 0, 98, 99, no more", d -> {
            SeenFromBehind x = hillOf(GRINDER, 0, 14, UP, GRINDER, 0, 20, RIGHT);
            d.is("at first", x.personOf(0, 4), 0);
            after(x, 98);
            d.is("behind 98", x.personOf(0, 4), 98);
            x.nights(1);
            d.is("behind 99", x.personOf(0, 4), 99);
            x.nights(1);
            d.is("behind 100", x.personOf(0, 4), 99);
            d.is("of the other one", x.personOf(1, 4), 0);
        });
        s.test(4, "-1; -2.", "-1: one below the first, the last, one above", d -> {
            for (int what = 0; what <= 6; what++) {
                int w = what;
                refuses(d, Hills::lived, "personOf(-1, " + w + ")", x -> x.personOf(-1, w), -1);
                refuses(d, Hills::lived, "personOf(3, " + w + ")", x -> x.personOf(3, w), -1);
                onlyAsks(d, Hills::lived, "personOf(0, " + w + ")", x -> x.personOf(0, w));
                onlyAsks(d, Hills::lived, "personOf(2, " + w + ")", x -> x.personOf(2, w));
            }
            refuses(d, Hills::livedInCrowd, "personOf(6, 0)", x -> x.personOf(6, 0), -1);
            onlyAsks(d, Hills::livedInCrowd, "personOf(5, 0)", x -> x.personOf(5, 0));
        });
        s.test(4, "-1; -2.", "-2: what -1, 7", d -> {
            refuses(d, Hills::lived, "personOf(0, -1)", x -> x.personOf(0, -1), -2);
            refuses(d, Hills::lived, "personOf(0, 7)", x -> x.personOf(0, 7), -2);
        });
        s.test(4, "-1; -2.", "the order", d -> {
            refuses(d, Hills::lived, "personOf(3, 7)", x -> x.personOf(3, 7), -1);
            refuses(d, Hills::lived, "personOf(-1, -1)", x -> x.personOf(-1, -1), -1);
        });
    }

    private static void everyFigure(Due d, int what, int[][] want) {
        for (int kind = 0; kind <= 5; kind++) {
            for (int figure = 0; figure <= 9; figure++) {
                SeenFromBehind x = hillOf(kind, figure, 7, LEFT);
                d.is("KIND " + kind + ", FIGURE " + figure, x.personOf(0, what), want[kind][figure]);
            }
        }
    }

    private static void person(Sentences s) {
        s.test(5, "One more: the number.", "0 .. 5", d -> {
            SeenFromBehind x = new SeenFromBehind();
            for (int i = 0; i < 6; i++) {
                d.is("one more", x.person(i, i, 35 - i, i % 4), i);
                d.is("how many", x.count(0), i + 1);
                stateIs(d, x, i, 35 - i, i % 4, 0);
            }
        });
        s.test(5, "PEOPLE 0 .. 5 as they come (6 at most)", "one refused takes no number", d -> {
            SeenFromBehind x = new SeenFromBehind();
            for (int i = 0; i < 6; i++) {
                d.is("refused", x.person(0, 10, i, 0), -6);
                d.is("one more", x.person(0, 9, i, 0), i);
            }
            d.is("the seventh", x.person(0, 9, 6, 0), -6);
            d.is("count(0)", x.count(0), 6);
        });
        s.test(5, "0 .. 99; 0 at first", "STARTS of one whose number another one had", d -> {
            SeenFromBehind x = hillOf(GRINDER, 0, 20, RIGHT);
            x.image();
            x.person(GRINDER, 9, 14, UP);
            x.nights(60);
            stateIs(d, x, 1, 14, UP, 60);
            x.restore();
            d.is("one more", x.person(GIRL, 1, 8, LEFT), 1);
            stateIs(d, x, 1, 8, LEFT, 0);
            d.is("KIND", x.personOf(1, 0), GIRL);
            d.is("FIGURE", x.personOf(1, 1), 1);
            d.is("all STARTS", x.count(2), 0);
        });
        s.test(5, "-2;", "KIND -1, 0, 5, 6", d -> {
            refuses(d, Hills::lived, "person(-1, 0, 0, 0)", x -> x.person(-1, 0, 0, 0), -2);
            d.is("person(0, ..)", lived().person(0, 0, 0, 0), 3);
            d.is("person(5, ..)", lived().person(5, 0, 0, 0), 3);
            refuses(d, Hills::lived, "person(6, 0, 0, 0)", x -> x.person(6, 0, 0, 0), -2);
        });
        s.test(5, "-4;", "FIGURE -1, 0", d -> {
            refuses(d, Hills::lived, "person(0, -1, 0, 0)", x -> x.person(0, -1, 0, 0), -4);
            d.is("person(0, 0, ..)", lived().person(0, 0, 0, 0), 3);
        });
        s.test(5, "-6 (9; 6 there are)", "FIGURE 8, 9, 10", d -> {
            d.is("person(0, 8, ..)", lived().person(0, 8, 0, 0), 3);
            d.is("person(0, 9, ..)", lived().person(0, 9, 0, 0), 3);
            refuses(d, Hills::lived, "person(0, 10, 0, 0)", x -> x.person(0, 10, 0, 0), -6);
            refuses(d, Hills::lived, "person(0, greatest, 0, 0)", x -> x.person(0, MAX, 0, 0), -6);
        });
        s.test(5, "-6 (9; 6 there are)", "4, 5, 6 there are", d -> {
            SeenFromBehind x = hillOf(0, 0, 0, 0, 0, 0, 1, 0, 0, 0, 2, 0, 0, 0, 3, 0);
            d.is("4 there", x.person(0, 0, 4, 0), 4);
            d.is("5 there", x.person(0, 0, 5, 0), 5);
            refuses(d, Hills::livedInCrowd, "person(0, 0, 18, 0)", y -> y.person(0, 0, 18, 0), -6);
        });
        s.test(5, "-1 (CELL, FACES)", "CELL -1, 0, 35, 36", d -> {
            refuses(d, Hills::lived, "person(0, 0, -1, 0)", x -> x.person(0, 0, -1, 0), -1);
            d.is("CELL 0", lived().person(0, 0, 0, 0), 3);
            d.is("CELL 35", lived().person(0, 0, 35, 0), 3);
            refuses(d, Hills::lived, "person(0, 0, 36, 0)", x -> x.person(0, 0, 36, 0), -1);
        });
        s.test(5, "-1 (CELL, FACES)", "FACES -1, 0, 3, 4", d -> {
            refuses(d, Hills::lived, "person(0, 0, 0, -1)", x -> x.person(0, 0, 0, -1), -1);
            d.is("FACES 0", lived().person(0, 0, 0, 0), 3);
            d.is("FACES 3", lived().person(0, 0, 0, 3), 3);
            refuses(d, Hills::lived, "person(0, 0, 0, 4)", x -> x.person(0, 0, 0, 4), -1);
        });
        s.test(5, "-3 somebody is there.", "each one's CELL, a free one", d -> {
            for (int p = 0; p < 3; p++) {
                int cell = lived().personOf(p, 2);
                refuses(d, Hills::lived, "person(0, 0, " + cell + ", 0)", x -> x.person(0, 0, cell, 0), -3);
            }
            SeenFromBehind x = hillOf(0, 0, 14, 0);
            x.stands(0, 15);
            d.is("where he was", x.person(0, 0, 14, 0), 1);
            d.is("where he is", x.person(0, 0, 15, 0), -3);
        });
        s.test(5, "-2; -4; -6 (9; 6 there are); -1 (CELL, FACES); -3 somebody is there.", "the order of each two", d -> {
            int taken = lived().personOf(0, 2);
            refuses(d, Hills::lived, "KIND, FIGURE below", x -> x.person(6, -1, 0, 0), -2);
            refuses(d, Hills::lived, "KIND, FIGURE above", x -> x.person(6, 10, 0, 0), -2);
            refuses(d, Hills::livedInCrowd, "KIND, 6 there are", x -> x.person(-1, 0, 18, 0), -2);
            refuses(d, Hills::lived, "KIND, CELL", x -> x.person(6, 0, 36, 0), -2);
            refuses(d, Hills::lived, "KIND, FACES", x -> x.person(6, 0, 0, 4), -2);
            refuses(d, Hills::lived, "KIND, somebody there", x -> x.person(6, 0, taken, 0), -2);
            refuses(d, Hills::livedInCrowd, "FIGURE below, 6 there are", x -> x.person(0, -1, 18, 0), -4);
            refuses(d, Hills::lived, "FIGURE below, CELL", x -> x.person(0, -1, 36, 0), -4);
            refuses(d, Hills::lived, "FIGURE below, FACES", x -> x.person(0, -1, 0, 4), -4);
            refuses(d, Hills::lived, "FIGURE below, somebody there", x -> x.person(0, -1, taken, 0), -4);
            refuses(d, Hills::lived, "FIGURE above, CELL", x -> x.person(0, 10, -1, 0), -6);
            refuses(d, Hills::lived, "FIGURE above, FACES", x -> x.person(0, 10, 0, -1), -6);
            refuses(d, Hills::lived, "FIGURE above, somebody there", x -> x.person(0, 10, taken, 0), -6);
            refuses(d, Hills::livedInCrowd, "6 there are, CELL", x -> x.person(0, 0, 36, 0), -6);
            refuses(d, Hills::livedInCrowd, "6 there are, FACES", x -> x.person(0, 0, 18, 4), -6);
            int takenInCrowd = livedInCrowd().personOf(0, 2);
            refuses(d, Hills::livedInCrowd, "6 there are, somebody there", x -> x.person(0, 0, takenInCrowd, 0), -6);
            refuses(d, Hills::lived, "FACES, somebody there", x -> x.person(0, 0, taken, 4), -1);
        });
        s.test(5, "person(), a HILL without FAULT, restore(), where they are not refused, leave none", "one more, one refused", d -> {
            SeenFromBehind x = lived();
            d.is("to be taken back", x.count(7), 4);
            x.person(6, 0, 0, 0);
            x.person(0, 0, 36, 0);
            d.is("refused", x.count(7), 4);
            x.person(0, 0, 0, 0);
            d.is("one more", x.count(7), 0);
            d.is("back()", x.back(), -3);
        });
    }

    private static void turns(Sentences s) {
        s.test(6, "He FACES so: how he did.", "each FACES to each", d -> {
            for (int from = 0; from < 4; from++) {
                for (int to = 0; to < 4; to++) {
                    SeenFromBehind x = hillOf(GIRL, 0, 14, from, GIRL, 0, 35, from);
                    d.is("turns(0, " + to + ")", x.turns(0, to), from);
                    stateIs(d, x, 0, 14, to, 0);
                    stateIs(d, x, 1, 35, from, 0);
                }
            }
        });
        s.test(6, "-1 either.", "one -1, 0, 2, 3", d -> {
            refuses(d, Hills::lived, "turns(-1, 0)", x -> x.turns(-1, 0), -1);
            d.is("turns(0, 0)", lived().turns(0, 0), LEFT);
            d.is("turns(2, 0)", hillOf(0, 0, 0, 0, 0, 0, 1, 0, 0, 0, 2, 3).turns(2, 0), LEFT);
            refuses(d, Hills::lived, "turns(3, 0)", x -> x.turns(3, 0), -1);
            refuses(d, Hills::livedInCrowd, "turns(6, 0)", x -> x.turns(6, 0), -1);
        });
        s.test(6, "-1 either.", "FACES -1, 0, 3, 4; both", d -> {
            refuses(d, Hills::lived, "turns(0, -1)", x -> x.turns(0, -1), -1);
            refuses(d, Hills::lived, "turns(0, 4)", x -> x.turns(0, 4), -1);
            d.is("turns(0, 3)", lived().turns(0, 3), LEFT);
            refuses(d, Hills::lived, "turns(3, 4)", x -> x.turns(3, 4), -1);
        });
        s.test(6, "each that is not refused counts, also if all stays as it was", "to the same FACES", d -> {
            SeenFromBehind x = hillOf(GIRL, 0, 14, DOWN);
            d.is("turns(0, 2)", x.turns(0, DOWN), DOWN);
            d.is("count(7)", x.count(7), 1);
            x.turns(0, 4);
            d.is("refused", x.count(7), 1);
        });
    }

    private static void stands(Sentences s) {
        s.test(7, "He is in a CELL: where he was.", "from the first to the last and back", d -> {
            SeenFromBehind x = hillOf(GIRL, 0, 0, LEFT, GIRL, 0, 7, UP);
            d.is("stands(0, 35)", x.stands(0, 35), 0);
            stateIs(d, x, 0, 35, LEFT, 0);
            d.is("stands(0, 0)", x.stands(0, 0), 35);
            stateIs(d, x, 0, 0, LEFT, 0);
            stateIs(d, x, 1, 7, UP, 0);
        });
        s.test(7, "-1 either;", "one -1, 3; the last one", d -> {
            refuses(d, Hills::lived, "stands(-1, 0)", x -> x.stands(-1, 0), -1);
            refuses(d, Hills::lived, "stands(3, 0)", x -> x.stands(3, 0), -1);
            int cell = lived().personOf(2, 2);
            d.is("stands(2, 0)", lived().stands(2, 0), cell);
        });
        s.test(7, "-1 either;", "CELL -1, 0, 35, 36", d -> {
            refuses(d, Hills::lived, "stands(0, -1)", x -> x.stands(0, -1), -1);
            refuses(d, Hills::lived, "stands(0, 36)", x -> x.stands(0, 36), -1);
            int cell = lived().personOf(0, 2);
            d.is("stands(0, 0)", lived().stands(0, 0), cell);
            d.is("stands(0, 35)", lived().stands(0, 35), cell);
        });
        s.test(7, "-3 somebody is there (he himself, too).", "another one, he himself", d -> {
            for (int p = 0; p < 3; p++) {
                int cell = lived().personOf(p, 2);
                refuses(d, Hills::lived, "stands(0, " + cell + ")", x -> x.stands(0, cell), -3);
                refuses(d, Hills::lived, "stands(2, " + cell + ")", x -> x.stands(2, cell), -3);
            }
        });
        s.test(7, "-1 either; -3 somebody is there (he himself, too).", "the order", d -> {
            int cell = lived().personOf(0, 2);
            refuses(d, Hills::lived, "stands(3, " + cell + ")", x -> x.stands(3, cell), -1);
            refuses(d, Hills::lived, "stands(3, 36)", x -> x.stands(3, 36), -1);
        });
        s.test(7, "each that is not refused counts", "one that is, two that are not", d -> {
            SeenFromBehind x = hillOf(GIRL, 0, 14, DOWN);
            x.stands(0, 15);
            d.is("count(7)", x.count(7), 1);
            x.stands(0, 15);
            x.stands(0, 36);
            d.is("count(7)", x.count(7), 1);
        });
    }

    private static SeenFromBehind livedTill(int night) {
        SeenFromBehind x = lived();
        return after(x, night - x.count(1));
    }

    private static void nights(Sentences s) {
        s.test(8, "n NIGHTS go by: all STARTS.", "0 STARTS, those of one, of all", d -> {
            d.is("nobody", new SeenFromBehind().nights(60), 0);
            d.is("none starts", hillOf(GIRL, 0, 0, UP).nights(9), 0);
            d.is("one", hillOf(GRINDER, 0, 14, UP, GRINDER, 0, 20, RIGHT).nights(9), 9);
            d.is("two", hillOf(GRINDER, 0, 14, UP, GRINDER, 0, 20, DOWN).nights(9), 18);
        });
        s.test(8, "-4 below 1;", "-1, 0, 1", d -> {
            refuses(d, Hills::lived, "nights(-1)", x -> x.nights(-1), -4);
            refuses(d, Hills::lived, "nights(0)", x -> x.nights(0), -4);
            refuses(d, Hills::lived, "nights(least)", x -> x.nights(MIN), -4);
            SeenFromBehind x = lived();
            x.nights(1);
            d.is("NIGHT", x.count(1), 6);
        });
        s.test(8, "-6 (60; NIGHT above 999).", "59, 60, 61", d -> {
            SeenFromBehind x = lived();
            x.nights(59);
            d.is("NIGHT", x.count(1), 64);
            x.nights(60);
            d.is("NIGHT", x.count(1), 124);
            refuses(d, Hills::lived, "nights(61)", y -> y.nights(61), -6);
            refuses(d, Hills::lived, "nights(greatest)", y -> y.nights(MAX), -6);
        });
        s.test(8, "-6 (60; NIGHT above 999).", "NIGHT 998, 999, 1000", d -> {
            SeenFromBehind x = livedTill(998);
            refuses(d, () -> livedTill(998), "nights(2) at 998", y -> y.nights(2), -6);
            d.is("NIGHT", x.count(1), 998);
            x.nights(1);
            d.is("NIGHT", x.count(1), 999);
            refuses(d, () -> livedTill(999), "nights(1) at 999", y -> y.nights(1), -6);
        });
        s.test(8, "-6 (60; NIGHT above 999).", "60 from NIGHT 939, 940", d -> {
            SeenFromBehind x = livedTill(939);
            x.nights(60);
            d.is("NIGHT", x.count(1), 999);
            refuses(d, () -> livedTill(940), "nights(60) at 940", y -> y.nights(60), -6);
            x = livedTill(940);
            x.nights(59);
            d.is("NIGHT", x.count(1), 999);
        });
        s.test(8, "-4 below 1; -6 (60; NIGHT above 999).", "the order at NIGHT 999", d -> {
            refuses(d, () -> livedTill(999), "nights(0) at 999", x -> x.nights(0), -4);
            refuses(d, () -> livedTill(999), "nights(-1) at 999", x -> x.nights(-1), -4);
            refuses(d, () -> livedTill(999), "nights(61) at 999", x -> x.nights(61), -6);
        });
        s.test(8, "0 .. 99; 0 at first", "all STARTS of two, 99 each at most", d -> {
            SeenFromBehind x = hillOf(GRINDER, 0, 14, UP, GRINDER, 0, 20, DOWN);
            x.nights(60);
            d.is("behind 98", x.nights(38), 196);
            d.is("behind 99", x.nights(1), 198);
            d.is("behind 100", x.nights(1), 198);
            d.is("behind 160", x.nights(60), 198);
        });
        s.test(8, "NIGHT is 1 more", "with nobody there, too", d -> {
            SeenFromBehind x = new SeenFromBehind();
            for (int i = 1; i <= 9; i++) {
                x.nights(1);
                d.is("NIGHT", x.count(1), i);
            }
        });
        s.test(8, "who has somebody IN THE LENS (as all is then)", "what those ahead of him have done is done", d -> {
            // 0 steps up from 13 to 7, and so into the lens of 2, who looks the other way than at 6.
            SeenFromBehind x = hillOf(EDGE, 0, 13, UP, GRINDER, 0, 19, RIGHT, GRINDER, 0, 9, RIGHT);
            d.is("0 and 2 start", x.nights(1), 2);
            stateIs(d, x, 0, 7, UP, 1);
            stateIs(d, x, 2, 9, RIGHT, 1);
            // With the numbers changed he looks before the other one has stepped.
            x = hillOf(GRINDER, 0, 9, RIGHT, EDGE, 0, 13, UP, GRINDER, 0, 19, RIGHT);
            d.is("1 alone starts", x.nights(1), 1);
            stateIs(d, x, 0, 9, RIGHT, 0);
        });
    }

    private static void kindsByNight(Sentences s) {
        s.test(8, "VIEWER turns round (FACES 2 more, modulo 4), if that one WATCHES him, else nothing", "each FACES, watched or not", d -> {
            for (int way = 0; way < 4; way++) {
                int behind = cellFrom(14, opposite(way), 1);
                oneNight(d, hillOf(VIEWER, 0, 14, way, VIEWER, 0, behind, way), 14, (way + 2) % 4);
                oneNight(d, hillOf(VIEWER, 0, 14, way, VIEWER, 0, behind, (way + 1) % 4), 14, way);
            }
        });
        s.test(8, "VIEWER turns round (FACES 2 more, modulo 4), if that one WATCHES him, else nothing", "three away, REACH 2, 3, 4", d -> {
            for (int figure = 2; figure <= 6; figure += 2) {
                boolean watched = figure >= 4;
                oneNight(d, hillOf(VIEWER, 4, 2, UP, BORE, figure, 20, UP), 2, watched ? DOWN : UP);
            }
        });
        s.test(8, "GIRL turns right (FACES 1 more, modulo 4)", "each FACES, 3 to 0", d -> {
            for (int way = 0; way < 4; way++) {
                oneNight(d, withBehind(GIRL, 14, way, 1), 14, (way + 1) % 4);
            }
        });
        s.test(8, "MASTER turns round", "each FACES", d -> {
            for (int way = 0; way < 4; way++) {
                oneNight(d, withBehind(MASTER, 14, way, 1), 14, (way + 2) % 4);
            }
        });
        s.test(8, "GRINDER nothing", "each FACES", d -> {
            for (int way = 0; way < 4; way++) {
                oneNight(d, withBehind(GRINDER, 14, way, 1), 14, way);
            }
        });
        s.test(8, "BORE steps a CELL back (the other way than he FACES), if that is on the hill and nobody is there", "1, 2, 3, 4 away", d -> {
            int[] rims = {2, 17, 32, 12};
            for (int way = 0; way < 4; way++) {
                // From the rim that he faces there are four cells behind him or more.
                int cell = rims[way];
                int step = cellFrom(cell, opposite(way), 1);
                oneNight(d, withBehind(BORE, cell, way, 1), cell, way);
                oneNight(d, withBehind(BORE, cell, way, 2), step, way);
                oneNight(d, withBehind(BORE, cell, way, 3), step, way);
                SeenFromBehind x = withBehind(BORE, cell, way, 4);
                d.is("beyond his DEPTH", x.nights(1), 0);
                stateIs(d, x, 0, cell, way, 0);
            }
        });
        s.test(8, "EDGE steps a CELL ahead, if that is on the hill and nobody is there", "the rim, one before it", d -> {
            int[] rims = {2, 17, 33, 12};
            for (int way = 0; way < 4; way++) {
                oneNight(d, withBehind(EDGE, rims[way], way, 1), rims[way], way);
                oneNight(d, withBehind(EDGE, cellFrom(rims[way], opposite(way), 1), way, 1), rims[way], way);
                oneNight(d, withBehind(EDGE, cellFrom(rims[way], opposite(way), 2), way, 1),
                    cellFrom(rims[way], opposite(way), 1), way);
            }
        });
        s.test(8, "EDGE steps a CELL ahead, if that is on the hill and nobody is there", "from every cell with one behind it", d -> {
            for (int cell = 0; cell < 36; cell++) {
                for (int way = 0; way < 4; way++) {
                    if (isBeside(cell, opposite(way))) {
                        oneNight(d, withBehind(EDGE, cell, way, 1), isBeside(cell, way) ? cellFrom(cell, way, 1) : cell, way);
                    }
                }
            }
        });
        s.test(8, "BORE steps a CELL back (the other way than he FACES), if that is on the hill and nobody is there", "from every cell", d -> {
            for (int cell = 0; cell < 36; cell++) {
                for (int way = 0; way < 4; way++) {
                    int back = opposite(way);
                    if (!isBeside(cell, back)) {
                        SeenFromBehind x = hillOf(BORE, 9, cell, way, GRINDER, 0, cell == 14 ? 15 : 14, UP);
                        x.nights(1);
                        stateIs(d, x, 0, cell, way, 0);
                    } else if (isBeside(cellFrom(cell, back, 1), back)) {
                        oneNight(d, withBehind(BORE, cell, way, 2), cellFrom(cell, back, 1), way);
                    } else {
                        oneNight(d, withBehind(BORE, cell, way, 1), cell, way);
                    }
                }
            }
        });
        s.test(8, "EDGE steps a CELL ahead, if that is on the hill and nobody is there", "somebody 1, 2 ahead", d -> {
            for (int way = 0; way < 4; way++) {
                int[] cells = {20, 14, 14, 15};
                int cell = cells[way];
                SeenFromBehind x = withBehind(EDGE, cell, way, 1);
                x.person(GRINDER, 0, cellFrom(cell, way, 1), (way + 1) % 4);
                oneNight(d, x, cell, way);
                x = withBehind(EDGE, cell, way, 1);
                x.person(GRINDER, 0, cellFrom(cell, way, 2), (way + 1) % 4);
                oneNight(d, x, cellFrom(cell, way, 1), way);
            }
        });
        s.test(8, "a CELL (no two in one)", "two who step to the same CELL", d -> {
            // Both EDGES would step to 14; the first one is there when the second one looks.
            SeenFromBehind x = hillOf(EDGE, 0, 13, RIGHT, EDGE, 0, 15, LEFT, GRINDER, 0, 12, UP, GRINDER, 0, 16, UP);
            d.is("both start", x.nights(1), 2);
            stateIs(d, x, 0, 14, RIGHT, 1);
            stateIs(d, x, 1, 15, LEFT, 1);
            x = hillOf(BORE, 0, 13, LEFT, BORE, 0, 15, RIGHT);
            d.is("both start, back to back", x.nights(1), 2);
            stateIs(d, x, 0, 14, LEFT, 1);
            stateIs(d, x, 1, 15, RIGHT, 1);
        });
        s.test(8, "then PEOPLE by numbers", "who is first turns away, or is looked at still", d -> {
            SeenFromBehind x = hillOf(GIRL, 0, 20, UP, VIEWER, 0, 14, UP, GRINDER, 0, 26, RIGHT);
            d.is("the GIRL turns away first", x.nights(1), 2);
            stateIs(d, x, 1, 14, UP, 1);
            x = hillOf(VIEWER, 0, 14, UP, GIRL, 0, 20, UP, GRINDER, 0, 26, RIGHT);
            d.is("the VIEWER is WATCHED still", x.nights(1), 2);
            stateIs(d, x, 0, 14, DOWN, 1);
        });
        s.test(8, "who has somebody IN THE LENS", "one beyond the DEPTH, none behind: nothing", d -> {
            int[] depths = {2, 2, 3, 2, 6, 1};
            for (int kind = 0; kind <= 5; kind++) {
                for (int far = 1; far <= 5; far++) {
                    SeenFromBehind x = hillOf(kind, 0, 0, UP, GRINDER, 0, 6 * far, RIGHT);
                    d.is("KIND " + kind + ", " + far + " behind", x.nights(1), far <= depths[kind] ? 1 : 0);
                }
                d.is("none behind", hillOf(kind, 0, 14, UP, GRINDER, 0, 8, RIGHT).nights(1), 0);
            }
        });
    }

    /** One with a GRINDER so far behind him, in whose lens nobody is. */
    private static SeenFromBehind withBehind(int kind, int cell, int way, int far) {
        return hillOf(kind, 0, cell, way, GRINDER, 0, cellFrom(cell, opposite(way), far), (way + 1) % 4);
    }

    /** Whether a cell of the hill is next to another one on that side. */
    private static boolean isBeside(int cell, int way) {
        switch (way) {
            case UP:
                return cell / 6 > 0;
            case RIGHT:
                return cell % 6 < 5;
            case DOWN:
                return cell / 6 < 5;
            default:
                return cell % 6 > 0;
        }
    }

    /** Person 0 alone starts, and then is there and faces so. */
    private static void oneNight(Due d, SeenFromBehind x, int cell, int faces) {
        d.is("nights(1)", x.nights(1), 1);
        stateIs(d, x, 0, cell, faces, 1);
    }

    private static void back(Sentences s) {
        s.test(9, "TAKEN BACK: how many can still be.", "7, .. 0 behind 8", d -> {
            SeenFromBehind x = turned(8);
            for (int left = 7; left >= 0; left--) {
                d.is("back()", x.back(), left);
                d.is("count(7)", x.count(7), left);
                d.is("FACES", x.personOf(0, 3), left % 4);
            }
        });
        s.test(9, "8 at most (older ones no more", "7, 8, 9, 17 changes", d -> {
            for (int changes : new int[] {7, 8, 9, 17}) {
                SeenFromBehind x = turned(changes);
                int many = Math.min(8, changes);
                d.is("count(7) behind " + changes, x.count(7), many);
                for (int i = 0; i < many; i++) {
                    x.back();
                }
                d.is("how he faced " + many + " ago", x.personOf(0, 3), (changes - many) % 4);
                d.is("no more", x.back(), -3);
            }
        });
        s.test(9, "8 at most (older ones no more", "7, 8, 9, 17 steps, and so many nights", d -> {
            for (int changes : new int[] {7, 8, 9, 17}) {
                int many = Math.min(8, changes);
                SeenFromBehind steps = hillOf(GIRL, 0, 0, UP);
                SeenFromBehind nights = masterBetween();
                for (int i = 1; i <= changes; i++) {
                    steps.stands(0, i);
                    nights.nights(1);
                }
                for (int left = many - 1; left >= 0; left--) {
                    d.is("back() to a step", steps.back(), left);
                    d.is("back() to a night", nights.back(), left);
                }
                stateIs(d, steps, 0, changes - many, UP, 0);
                d.is("NIGHT", nights.count(1), changes - many);
                stateIs(d, nights, 0, 14, (changes - many) % 2 == 0 ? UP : DOWN, changes - many);
                d.is("no more steps", steps.back(), -3);
                d.is("no more nights", nights.back(), -3);
            }
        });
        s.test(9, "What turns(), stands(), nights() changed can be TAKEN BACK", "60 NIGHTS at once, up to NIGHT 999, STARTS at 99", d -> {
            SeenFromBehind x = after(masterBetween(), 939);
            stateIs(d, x, 0, 14, DOWN, 99);
            x.nights(60);
            d.is("NIGHT", x.count(1), 999);
            d.is("refused", x.nights(1), -6);
            x.back();
            d.is("NIGHT", x.count(1), 939);
            stateIs(d, x, 0, 14, DOWN, 99);
            d.is("they can go by again", x.nights(60), 99);
            x = masterBetween();
            x.nights(60);
            x.back();
            stateIs(d, x, 0, 14, UP, 0);
            d.is("all STARTS", x.count(2), 0);
        });
        s.test(9, "-3 none.", "none at first, none behind the last", d -> {
            d.is("a new object", new SeenFromBehind().back(), -3);
            refuses(d, BoundariesOfPeople::takenBack, "back()", SeenFromBehind::back, -3);
            SeenFromBehind x = turned(1);
            d.is("one", x.back(), 0);
            d.is("none", x.back(), -3);
        });
        s.test(9, "the latest first", "a turn, a step, nights", d -> {
            SeenFromBehind x = masterBetween();
            x.turns(0, LEFT);
            x.stands(0, 15);
            x.stands(0, 14);
            x.turns(0, UP);
            x.nights(3);
            stateIs(d, x, 0, 14, DOWN, 3);
            d.is("nights", x.back(), 4);
            stateIs(d, x, 0, 14, UP, 0);
            d.is("NIGHT", x.count(1), 0);
            d.is("the turn", x.back(), 3);
            stateIs(d, x, 0, 14, LEFT, 0);
            d.is("the step", x.back(), 2);
            stateIs(d, x, 0, 15, LEFT, 0);
            d.is("the step", x.back(), 1);
            stateIs(d, x, 0, 14, LEFT, 0);
            d.is("the turn", x.back(), 0);
            stateIs(d, x, 0, 14, UP, 0);
        });
        s.test(9, "each that is not refused counts, also if all stays as it was", "a night in which nothing happens, the same FACES", d -> {
            SeenFromBehind x = hillOf(GIRL, 0, 14, UP);
            x.nights(1);
            x.turns(0, UP);
            d.is("count(7)", x.count(7), 2);
            d.is("back()", x.back(), 1);
            d.is("NIGHT", x.count(1), 1);
            d.is("back()", x.back(), 0);
            d.is("NIGHT", x.count(1), 0);
        });
        s.test(9, "each that is not refused counts, also if all stays as it was", "what is refused does not", d -> {
            SeenFromBehind x = turned(3);
            x.turns(0, 4);
            x.stands(0, 14);
            x.stands(1, 0);
            x.nights(0);
            x.nights(61);
            d.is("count(7)", x.count(7), 3);
        });
        s.test(9, "person(), a HILL without FAULT, restore(), where they are not refused, leave none", "person()", d -> {
            SeenFromBehind x = turned(3);
            d.is("refused", x.person(0, 0, 14, 0), -3);
            d.is("count(7)", x.count(7), 3);
            d.is("one more", x.person(0, 0, 15, 0), 1);
            d.is("back()", x.back(), -3);
        });
        s.test(9, "person(), a HILL without FAULT, restore(), where they are not refused, leave none", "a HILL", d -> {
            SeenFromBehind x = turned(3);
            told(d, x, "f04;", -2000);
            told(d, x, "f0", -1002);
            d.is("count(7)", x.count(7), 3);
            told(d, x, "f00;", 1);
            d.is("back()", x.back(), -3);
        });
        s.test(9, "person(), a HILL without FAULT, restore(), where they are not refused, leave none", "restore()", d -> {
            SeenFromBehind x = turned(3);
            d.is("refused", x.restore(), -3);
            d.is("count(7)", x.count(7), 3);
            x.image();
            d.is("an image leaves them", x.count(7), 3);
            d.is("restore()", x.restore(), 0);
            d.is("back()", x.back(), -3);
        });
        s.test(9, "TAKEN BACK: how many can still be.", "and then another change", d -> {
            SeenFromBehind x = turned(8);
            x.back();
            x.back();
            d.is("FACES", x.personOf(0, 3), 2);
            x.turns(0, UP);
            d.is("count(7)", x.count(7), 7);
            d.is("back()", x.back(), 6);
            d.is("FACES", x.personOf(0, 3), 2);
            d.is("back()", x.back(), 5);
            d.is("FACES", x.personOf(0, 3), 1);
        });
    }

    /** A GIRL at 14 who has been turned so often, to the right each time. */
    private static SeenFromBehind turned(int often) {
        SeenFromBehind x = hillOf(GIRL, 0, 14, UP);
        for (int i = 1; i <= often; i++) {
            x.turns(0, i % 4);
        }
        return x;
    }

    private static SeenFromBehind takenBack() {
        SeenFromBehind x = lived();
        for (int i = 0; i < 4; i++) {
            x.back();
        }
        return x;
    }
}
