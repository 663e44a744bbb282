/** A test for each promise, with answers that were found by hand from the document's words. */
public final class PromisesTest extends Hills {

    private static int failed = 0;

    public static void main(String[] args) {
        test("promise 1: a new object", PromisesTest::newObject);
        test("promise 2: feed", PromisesTest::feed);
        test("promise 3: hill, faults of letters", PromisesTest::hillLetters);
        test("promise 3: hill, faults of statements", PromisesTest::hillStatements);
        test("promise 3: hill, what comes", PromisesTest::hillComes);
        test("promise 4: personOf", PromisesTest::personOf);
        test("promise 5: person", PromisesTest::person);
        test("promise 6: turns", PromisesTest::turns);
        test("promise 7: stands", PromisesTest::stands);
        test("promise 8: nights, what each kind does", PromisesTest::nightsOfKinds);
        test("promise 8: nights, one behind the other", PromisesTest::nightsInOrder);
        test("promise 8: nights, bounds", PromisesTest::nightsBounds);
        test("promise 9: back", PromisesTest::back);
        test("promise 9: back, what leaves none", PromisesTest::backLeavesNone);
        test("promise 10: behind", PromisesTest::behind);
        test("promise 10: behind, how far one sees", PromisesTest::behindSees);
        test("promise 11: allStarts", PromisesTest::allStarts);
        test("promise 12: first", PromisesTest::first);
        test("promise 13: still", PromisesTest::still);
        test("promise 14: unseen", PromisesTest::unseen);
        test("promise 15: chain", PromisesTest::chain);
        test("promise 16: deepest", PromisesTest::deepest);
        test("promise 17: knows", PromisesTest::knows);
        test("promise 18: safe", PromisesTest::safe);
        test("promise 19: alone", PromisesTest::alone);
        test("promise 20: turnAll", PromisesTest::turnAll);
        test("promise 21: post", PromisesTest::post);
        test("promise 22: which", PromisesTest::which);
        test("promise 23: bestStep", PromisesTest::bestStep);
        test("promise 24: two", PromisesTest::two);
        test("promise 25: slept", PromisesTest::slept);
        test("promise 26: busiest", PromisesTest::busiest);
        test("promise 27: twos", PromisesTest::twos);
        test("promise 28: nearest", PromisesTest::nearest);
        test("promise 29: lines", PromisesTest::lines);
        test("promise 30: hidden", PromisesTest::hidden);
        test("promise 31: longest", PromisesTest::longest);
        test("promise 32: walks", PromisesTest::walks);
        test("promise 33: meets", PromisesTest::meets);
        test("promise 34: leave", PromisesTest::leave);
        test("promise 35: most", PromisesTest::most);
        test("promise 36: quiet", PromisesTest::quiet);
        test("promise 37: row", PromisesTest::row);
        test("promise 38: judge", PromisesTest::judge);
        test("promise 39: clear", PromisesTest::clear);
        test("promise 40: lots", PromisesTest::lots);
        test("promise 41: image", PromisesTest::image);
        test("promise 42: restore", PromisesTest::restore);
        test("promise 43: count", PromisesTest::count);
        if (failed > 0) {
            System.exit(1);
        }
    }

    private static void test(String name, Due.Test test) {
        failed += Due.test(name, test) ? 0 : 1;
    }

    private static void newObject(Due d) {
        SeenFromBehind x = new SeenFromBehind();
        for (int what = 0; what <= 7; what++) {
            d.is("count(" + what + ")", x.count(what), 0);
        }
        refused(d, x, 0, 0, 0, 0, 0, 0);
        d.is("personOf(0, 0)", x.personOf(0, 0), -1);
        d.is("back()", x.back(), -3);
        d.is("restore()", x.restore(), -3);
        d.is("hill()", x.hill(), -1000);
        d.is("person(0, 0, 0, 0)", x.person(0, 0, 0, 0), 0);
        d.is("another new one", new SeenFromBehind().count(0), 0);
    }

    private static void feed(Due d) {
        SeenFromBehind x = new SeenFromBehind();
        d.is("feed(0)", x.feed(0), 1);
        d.is("feed(255)", x.feed(255), 2);
        d.is("feed(256)", x.feed(256), -6);
        d.is("feed(-1)", x.feed(-1), -4);
        d.is("feed(least)", x.feed(MIN), -4);
        d.is("feed(greatest)", x.feed(MAX), -6);
        d.is("count(5)", x.count(5), 2);
        for (int i = 3; i <= 96; i++) {
            d.is("feed " + i, x.feed('p'), i);
        }
        d.is("feed, 96 there", x.feed('p'), -6);
        d.is("feed(-1), 96 there", x.feed(-1), -4);
        d.is("count(5)", x.count(5), 96);
        refused(d, x, 0, 0, 0, 3, 0, 3);
        x.hill();
        d.is("feed behind hill()", x.feed('p'), 1);
    }

    private static void hillLetters(Due d) {
        SeenFromBehind x = new SeenFromBehind();
        told(d, x, "", -1000);
        told(d, x, "x", -1000);
        told(d, x, ";", -1000);
        told(d, x, "0", -1000);
        told(d, x, "P00140;", -1000);
        told(d, x, "p", -1001);
        told(d, x, "pp", -1001);
        told(d, x, "p00140", -1006);
        told(d, x, "p001400", -1006);
        told(d, x, "p0014;", -1005);
        told(d, x, "p00/40;", -1003);
        told(d, x, "p001:0;", -1004);
        told(d, x, "p00140;;", -1007);
        told(d, x, "p00140; ", -1007);
        told(d, x, "p00140;p", -1008);
        told(d, x, "f0;", -1002);
        told(d, x, "f00", -1003);
        told(d, x, "f000", -1003);
        told(d, x, "c00;", -1003);
        told(d, x, "c0000", -1004);
        told(d, x, "n5;", -1002);
        told(d, x, "n055", -1003);
        told(d, x, "n05", -1003);
        d.is("count(0)", x.count(0), 0);
        told(d, x, "p90990;x", -1007);
        told(d, x, "p90990;p90990", -1013);
        StringBuilder full = new StringBuilder();
        for (int i = 0; i < 24; i++) {
            full.append("f00;");
        }
        told(d, x, full.toString(), -2000);
        told(d, x, full.substring(0, 95) + "0", -1095);
        told(d, x, full.substring(0, 92) + "p001", -1096);
        d.is("count(5)", x.count(5), 0);
        refused(d, x, 0, 0, 0, 0, 0, 0);
    }

    private static void hillStatements(Due d) {
        SeenFromBehind x = new SeenFromBehind();
        told(d, x, "p60000;", -2000);
        told(d, x, "p90000;", -2000);
        told(d, x, "p00360;", -2000);
        told(d, x, "p00004;", -2000);
        told(d, x, "f00;", -2000);
        told(d, x, "c000;", -2000);
        told(d, x, "n00;", -2000);
        told(d, x, "n61;", -2000);
        told(d, x, "p00140;p00140;", -2007);
        told(d, x, "p00140;f10;", -2007);
        told(d, x, "p00140;f04;", -2007);
        told(d, x, "p00140;c036;", -2007);
        told(d, x, "p00140;c110;", -2007);
        told(d, x, "p00140;c014;", -2007);
        told(d, x, "p00140;p00150;c115;", -2014);
        told(d, x, "p00140;p00150;c014;", -2014);
        told(d, x, "p00140;n60;f05;n00;", -2011);
        told(d, x, "p00000;p00010;p00020;p00030;p00040;p00050;p00060;", -2042);
        d.is("nobody came", x.count(0), 0);
        d.is("no night went by", x.count(1), 0);
        StringBuilder nights = new StringBuilder("p00140;");
        for (int i = 0; i < 16; i++) {
            nights.append("n60;");
        }
        told(d, x, nights + "n40;", -2071);
        told(d, x, nights + "n39;", 18);
        d.is("NIGHT", x.count(1), 999);
        told(d, x, "n01;", -2000);
        told(d, x, "f03;", 1);
        refused(d, x, 0, 0, 0, 0, 0, 0);
    }

    private static void hillComes(Due d) {
        SeenFromBehind x = new SeenFromBehind();
        told(d, x, "p00140;p59202;f10;n01;", 4);
        d.is("count(0)", x.count(0), 2);
        d.is("count(1)", x.count(1), 1);
        stateIs(d, x, 0, 14, DOWN, 1);
        stateIs(d, x, 1, 20, UP, 0);
        d.is("personOf(1, 0)", x.personOf(1, 0), EDGE);
        d.is("personOf(1, 1)", x.personOf(1, 1), 9);
        told(d, x, "c035;c014;c135;", 3);
        stateIs(d, x, 0, 14, DOWN, 1);
        stateIs(d, x, 1, 35, UP, 0);
        told(d, x, "p10201;c000;f13;n02;x", -1020);
        told(d, x, "p10201;c000;f13;n02;f20;f90;", -2024);
        d.is("count(0)", x.count(0), 2);
        d.is("count(1)", x.count(1), 1);
        stateIs(d, x, 0, 14, DOWN, 1);
        stateIs(d, x, 1, 35, UP, 0);
        told(d, x, "p10201;", 1);
        d.is("count(0)", x.count(0), 3);
        d.is("count(5)", x.count(5), 0);
    }

    private static void personOf(Due d) {
        int[][] reachAndDepth = {
            // kind, figure, reach, depth
            {VIEWER, 0, 3, 2}, {VIEWER, 3, 3, 2}, {VIEWER, 4, 3, 3}, {VIEWER, 9, 3, 4},
            {GIRL, 0, 4, 2}, {GIRL, 5, 4, 3}, {GIRL, 8, 4, 4},
            {BORE, 0, 1, 3}, {BORE, 1, 1, 3}, {BORE, 2, 2, 3}, {BORE, 5, 3, 4}, {BORE, 9, 5, 5},
            {MASTER, 0, 6, 2}, {MASTER, 7, 6, 3}, {MASTER, 9, 6, 4},
            {GRINDER, 0, 0, 6}, {GRINDER, 5, 0, 8}, {GRINDER, 9, 0, 10},
            {EDGE, 0, 4, 1}, {EDGE, 2, 4, 1}, {EDGE, 3, 5, 1}, {EDGE, 6, 6, 1}, {EDGE, 9, 7, 1},
        };
        for (int[] r : reachAndDepth) {
            SeenFromBehind x = hillOf(r[0], r[1], 7, LEFT);
            d.is("REACH of kind " + r[0] + " figure " + r[1], x.personOf(0, 5), r[2]);
            d.is("DEPTH of kind " + r[0] + " figure " + r[1], x.personOf(0, 6), r[3]);
            d.is("KIND", x.personOf(0, 0), r[0]);
            d.is("FIGURE", x.personOf(0, 1), r[1]);
        }
        SeenFromBehind x = hillOf(GIRL, 7, 33, DOWN);
        stateIs(d, x, 0, 33, DOWN, 0);
        d.is("personOf(0, 7)", x.personOf(0, 7), -2);
        d.is("personOf(0, -1)", x.personOf(0, -1), -2);
        d.is("personOf(1, 7)", x.personOf(1, 7), -1);
        d.is("personOf(-1, 0)", x.personOf(-1, 0), -1);
        d.is("personOf(greatest, 0)", x.personOf(MAX, 0), -1);
        d.is("personOf(least, 0)", x.personOf(MIN, 0), -1);
        refused(d, x, 4, 2, 0, 0, 0, 0);
    }

    private static void person(Due d) {
        SeenFromBehind x = new SeenFromBehind();
        d.is("person(6, -1, 36, 4)", x.person(6, -1, 36, 4), -2);
        d.is("person(-1, ..)", x.person(-1, 0, 0, 0), -2);
        d.is("person(5, -1, 36, 4)", x.person(5, -1, 36, 4), -4);
        d.is("person(5, 10, 36, 4)", x.person(5, 10, 36, 4), -6);
        d.is("person(5, 9, 36, 0)", x.person(5, 9, 36, 0), -1);
        d.is("person(5, 9, -1, 0)", x.person(5, 9, -1, 0), -1);
        d.is("person(5, 9, 35, 4)", x.person(5, 9, 35, 4), -1);
        d.is("person(5, 9, 35, -1)", x.person(5, 9, 35, -1), -1);
        d.is("count(0)", x.count(0), 0);
        d.is("person(5, 9, 35, 3)", x.person(5, 9, 35, 3), 0);
        d.is("person(5, 9, 35, 4)", x.person(5, 9, 35, 4), -1);
        d.is("person(5, 9, 35, 3)", x.person(5, 9, 35, 3), -3);
        stateIs(d, x, 0, 35, LEFT, 0);
        for (int i = 1; i < 6; i++) {
            d.is("person " + i, x.person(i, i, i, UP), i);
        }
        d.is("person(6, ..), six there", x.person(6, 0, 20, 0), -2);
        d.is("person(0, -1, ..), six there", x.person(0, -1, 20, 0), -4);
        d.is("person(0, 0, 36, ..), six there", x.person(0, 0, 36, 0), -6);
        d.is("person(0, 0, 20, 0), six there", x.person(0, 0, 20, 0), -6);
        d.is("count(0)", x.count(0), 6);
        refused(d, x, 5, 3, 1, 2, 0, 3);
    }

    private static void turns(Due d) {
        SeenFromBehind x = hillOf(GIRL, 0, 14, UP, GIRL, 0, 15, RIGHT);
        d.is("turns(0, 3)", x.turns(0, LEFT), UP);
        d.is("turns(0, 3)", x.turns(0, LEFT), LEFT);
        d.is("turns(1, 2)", x.turns(1, DOWN), RIGHT);
        stateIs(d, x, 0, 14, LEFT, 0);
        stateIs(d, x, 1, 15, DOWN, 0);
        d.is("turns(0, 4)", x.turns(0, 4), -1);
        d.is("turns(0, -1)", x.turns(0, -1), -1);
        d.is("turns(2, 0)", x.turns(2, 0), -1);
        d.is("turns(-1, 0)", x.turns(-1, 0), -1);
        stateIs(d, x, 0, 14, LEFT, 0);
        d.is("count(7)", x.count(7), 3);
        refused(d, x, 4, 0, 0, 0, 0, 0);
    }

    private static void stands(Due d) {
        SeenFromBehind x = hillOf(GIRL, 0, 14, UP, GIRL, 0, 15, RIGHT);
        d.is("stands(0, 35)", x.stands(0, 35), 14);
        d.is("stands(0, 35)", x.stands(0, 35), -3);
        d.is("stands(0, 15)", x.stands(0, 15), -3);
        d.is("stands(1, 14)", x.stands(1, 14), 15);
        d.is("stands(0, 36)", x.stands(0, 36), -1);
        d.is("stands(0, -1)", x.stands(0, -1), -1);
        d.is("stands(2, 14)", x.stands(2, 14), -1);
        d.is("stands(-1, 0)", x.stands(-1, 0), -1);
        stateIs(d, x, 0, 35, UP, 0);
        stateIs(d, x, 1, 14, RIGHT, 0);
        d.is("count(7)", x.count(7), 2);
        refused(d, x, 4, 0, 2, 0, 0, 0);
    }

    private static void nightsOfKinds(Due d) {
        SeenFromBehind x = twoViewers();
        d.is("a VIEWER who is watched", x.nights(1), 1);
        stateIs(d, x, 0, 14, DOWN, 1);
        stateIs(d, x, 1, 20, UP, 0);
        d.is("NIGHT", x.count(1), 1);
        x = withGrinderBehind(VIEWER);
        d.is("a VIEWER who is not watched", x.nights(2), 2);
        stateIs(d, x, 0, 14, UP, 2);
        x = withGrinderBehind(GIRL);
        d.is("a GIRL", x.nights(1), 1);
        stateIs(d, x, 0, 14, RIGHT, 1);
        d.is("a GIRL, on", x.nights(5), 1);
        x.stands(1, 13);
        d.is("a GIRL, from the left", x.nights(1), 2);
        stateIs(d, x, 0, 14, DOWN, 2);
        x = withGrinderBehind(MASTER);
        d.is("a MASTER", x.nights(1), 1);
        stateIs(d, x, 0, 14, DOWN, 1);
        x = masterBetween();
        d.is("a MASTER between two", x.nights(3), 3);
        stateIs(d, x, 0, 14, DOWN, 3);
        x = hillOf(GRINDER, 0, 14, UP, GRINDER, 0, 20, RIGHT);
        d.is("a GRINDER", x.nights(4), 4);
        stateIs(d, x, 0, 14, UP, 4);
        x = steppingBore();
        d.is("a BORE", x.nights(1), 1);
        stateIs(d, x, 0, 14, UP, 1);
        d.is("a BORE, on", x.nights(1), 2);
        stateIs(d, x, 0, 20, UP, 2);
        d.is("a BORE, no room", x.nights(1), 3);
        stateIs(d, x, 0, 20, UP, 3);
        x = withGrinderBehind(EDGE);
        d.is("an EDGE", x.nights(1), 1);
        stateIs(d, x, 0, 8, UP, 1);
        d.is("an EDGE, nobody behind", x.nights(1), 1);
        x = hillOf(EDGE, 0, 2, UP, GRINDER, 0, 8, RIGHT);
        d.is("an EDGE at the hill's end", x.nights(2), 2);
        stateIs(d, x, 0, 2, UP, 2);
        x = hillOf(EDGE, 0, 11, RIGHT, GRINDER, 0, 10, RIGHT);
        d.is("an EDGE at the hill's right end", x.nights(1), 1);
        stateIs(d, x, 0, 11, RIGHT, 1);
        x = hillOf(EDGE, 0, 8, UP, GRINDER, 0, 14, RIGHT, GRINDER, 0, 2, RIGHT);
        d.is("an EDGE before somebody", x.nights(1), 1);
        stateIs(d, x, 0, 8, UP, 1);
    }

    private static void nightsInOrder(Due d) {
        SeenFromBehind x = hillOf(GIRL, 0, 20, UP, VIEWER, 0, 14, UP, GRINDER, 0, 26, RIGHT);
        d.is("the GIRL turns away first", x.nights(1), 2);
        stateIs(d, x, 0, 20, RIGHT, 1);
        stateIs(d, x, 1, 14, UP, 1);
        x = hillOf(VIEWER, 0, 14, UP, GIRL, 0, 20, UP, GRINDER, 0, 26, RIGHT);
        d.is("the VIEWER is watched still", x.nights(1), 2);
        stateIs(d, x, 0, 14, DOWN, 1);
        stateIs(d, x, 1, 20, RIGHT, 1);
        x = hillOf(EDGE, 0, 13, UP, GRINDER, 0, 19, RIGHT, GRINDER, 0, 9, RIGHT);
        d.is("the EDGE steps into the lens", x.nights(1), 2);
        stateIs(d, x, 0, 7, UP, 1);
        stateIs(d, x, 2, 9, RIGHT, 1);
        stateIs(d, x, 1, 19, RIGHT, 0);
    }

    private static void nightsBounds(Due d) {
        SeenFromBehind x = hillOf(GRINDER, 0, 14, UP, GRINDER, 0, 20, RIGHT);
        d.is("nights(0)", x.nights(0), -4);
        d.is("nights(-1)", x.nights(-1), -4);
        d.is("nights(least)", x.nights(MIN), -4);
        d.is("nights(61)", x.nights(61), -6);
        d.is("nights(greatest)", x.nights(MAX), -6);
        d.is("count(1)", x.count(1), 0);
        d.is("count(7)", x.count(7), 0);
        d.is("nights(60)", x.nights(60), 60);
        d.is("nights(60), no more than 99", x.nights(60), 99);
        d.is("personOf(0, 4)", x.personOf(0, 4), 99);
        for (int i = 2; i < 16; i++) {
            x.nights(60);
        }
        d.is("count(1)", x.count(1), 960);
        d.is("nights(40)", x.nights(40), -6);
        d.is("nights(39)", x.nights(39), 99);
        d.is("nights(1)", x.nights(1), -6);
        d.is("count(1)", x.count(1), 999);
        d.is("in mind nights go on", x.behind(0, 60, 0), 14);
        refused(d, x, 0, 0, 0, 3, 0, 4);
    }

    private static void back(Due d) {
        SeenFromBehind x = hillOf(GIRL, 0, 14, UP);
        d.is("back()", x.back(), -3);
        for (int i = 1; i <= 9; i++) {
            x.turns(0, i % 4);
        }
        d.is("count(7)", x.count(7), 8);
        for (int left = 7; left >= 0; left--) {
            d.is("back()", x.back(), left);
            d.is("faces", x.personOf(0, 3), (left + 1) % 4);
        }
        d.is("back()", x.back(), -3);
        x.stands(0, 3);
        x.turns(0, DOWN);
        x.turns(0, DOWN);
        d.is("back()", x.back(), 2);
        stateIs(d, x, 0, 3, DOWN, 0);
        d.is("back()", x.back(), 1);
        stateIs(d, x, 0, 3, RIGHT, 0);
        x.turns(0, UP);
        d.is("back()", x.back(), 1);
        d.is("back()", x.back(), 0);
        stateIs(d, x, 0, 14, RIGHT, 0);
        refused(d, x, 0, 0, 2, 0, 0, 0);
        x = masterBetween();
        x.nights(2);
        x.nights(1);
        d.is("back()", x.back(), 1);
        stateIs(d, x, 0, 14, UP, 2);
        d.is("NIGHT", x.count(1), 2);
        d.is("back()", x.back(), 0);
        stateIs(d, x, 0, 14, UP, 0);
        d.is("NIGHT", x.count(1), 0);
        x = steppingBore();
        x.nights(5);
        x.back();
        stateIs(d, x, 0, 8, UP, 0);
    }

    private static void backLeavesNone(Due d) {
        SeenFromBehind x = hillOf(GIRL, 0, 14, UP);
        x.turns(0, DOWN);
        x.person(0, 0, 14, 0);
        d.is("a person refused", x.count(7), 1);
        x.person(0, 0, 15, 0);
        d.is("a person", x.count(7), 0);
        d.is("back()", x.back(), -3);
        x.turns(0, UP);
        x.restore();
        d.is("restore refused", x.count(7), 1);
        x.image();
        d.is("image", x.count(7), 1);
        x.turns(0, 4);
        x.stands(0, 36);
        x.nights(0);
        d.is("what is refused does not count", x.count(7), 1);
        tell(x, "f00;f05;");
        tell(x, "f0");
        d.is("a hill with a fault", x.count(7), 1);
        d.is("back()", x.back(), 0);
        stateIs(d, x, 0, 14, DOWN, 0);
        x.turns(0, UP);
        tell(x, "f01;");
        d.is("a hill", x.count(7), 0);
        d.is("back()", x.back(), -3);
        x.turns(0, UP);
        x.restore();
        d.is("restore", x.count(7), 0);
        x.turns(0, LEFT);
        d.is("back()", x.back(), 0);
        stateIs(d, x, 0, 14, UP, 0);
    }

    private static void behind(Due d) {
        SeenFromBehind x = twoViewers();
        int[][] want = {{14, UP, 0, -9, 1, 2}, {14, DOWN, 1, 1, -9, 2}};
        for (int n = 0; n < 2; n++) {
            for (int what = 0; what < 6; what++) {
                d.is("behind(0, " + n + ", " + what + ")", x.behind(0, n, what), want[n][what]);
            }
        }
        d.is("behind(0, 60, 1)", x.behind(0, 60, 1), DOWN);
        d.is("behind(1, 1, 5)", x.behind(1, 1, 5), 1);
        d.is("behind(2, -1, 9)", x.behind(2, -1, 9), -1);
        d.is("behind(-1, ..)", x.behind(-1, 0, 0), -1);
        d.is("behind(0, -1, 9)", x.behind(0, -1, 9), -4);
        d.is("behind(0, 61, 9)", x.behind(0, 61, 9), -6);
        d.is("behind(0, 60, 6)", x.behind(0, 60, 6), -2);
        d.is("behind(0, 60, -1)", x.behind(0, 60, -1), -2);
        stateIs(d, x, 0, 14, UP, 0);
        d.is("NIGHT", x.count(1), 0);
        refused(d, x, 2, 2, 0, 1, 0, 1);
        x = steppingBore();
        d.is("behind(0, 1, 0)", x.behind(0, 1, 0), 14);
        d.is("behind(0, 9, 0)", x.behind(0, 9, 0), 20);
        d.is("behind(0, 9, 2)", x.behind(0, 9, 2), 9);
    }

    private static void behindSees(Due d) {
        SeenFromBehind x = hillOf(VIEWER, 0, 30, UP, GRINDER, 0, 12, RIGHT);
        d.is("three ahead", x.behind(0, 0, 3), 1);
        x.stands(1, 6);
        d.is("four ahead", x.behind(0, 0, 3), -9);
        x = hillOf(GIRL, 0, 30, UP, GRINDER, 0, 6, RIGHT, GRINDER, 0, 12, RIGHT);
        d.is("the next one alone", x.behind(0, 0, 3), 2);
        d.is("who watches the hidden one", x.behind(1, 0, 5), 0);
        d.is("who watches the next one", x.behind(2, 0, 5), 1);
        x = hillOf(VIEWER, 0, 5, UP, GRINDER, 0, 17, RIGHT);
        d.is("two behind", x.behind(0, 0, 4), 1);
        x.stands(1, 23);
        d.is("three behind", x.behind(0, 0, 4), -9);
        x = hillOf(VIEWER, 4, 5, UP, GRINDER, 0, 23, RIGHT);
        d.is("three behind, deeper", x.behind(0, 0, 4), 1);
        x = hillOf(MASTER, 0, 17, RIGHT, GRINDER, 0, 18, RIGHT, GRINDER, 0, 14, RIGHT);
        d.is("not round the hill's end", x.behind(0, 0, 3), -9);
        x.turns(0, LEFT);
        d.is("to the left", x.behind(0, 0, 3), 2);
        d.is("no reach, no ahead", x.behind(2, 0, 3), -9);
        d.is("the GRINDER's lens is to the left", x.behind(2, 0, 4), -9);
        x.stands(1, 12);
        d.is("the GRINDER's lens", x.behind(2, 0, 4), 1);
        d.is("behind the next one", x.behind(1, 0, 5), 0);
        x = hillOf(EDGE, 9, 0, DOWN, GRINDER, 0, 30, RIGHT);
        d.is("five ahead", x.behind(0, 0, 3), 1);
        x = hillOf(VIEWER, 0, 14, UP, VIEWER, 0, 8, DOWN, VIEWER, 0, 13, RIGHT, VIEWER, 0, 16, LEFT);
        d.is("watched from three sides", x.behind(0, 0, 5), 2 + 4 + 8);
    }

    private static void allStarts(Due d) {
        SeenFromBehind x = hillOf(GRINDER, 0, 14, UP, GRINDER, 0, 20, DOWN);
        d.is("allStarts(0)", x.allStarts(0), 0);
        d.is("allStarts(7)", x.allStarts(7), 14);
        d.is("allStarts(60)", x.allStarts(60), 120);
        d.is("count(2)", x.count(2), 0);
        x.nights(3);
        d.is("allStarts(0)", x.allStarts(0), 6);
        d.is("allStarts(1)", x.allStarts(1), 8);
        x.nights(60);
        d.is("allStarts(60), 99 each", x.allStarts(60), 198);
        d.is("allStarts(-1)", x.allStarts(-1), -4);
        d.is("allStarts(61)", x.allStarts(61), -6);
        refused(d, x, 0, 0, 0, 1, 0, 1);
    }

    private static void first(Due d) {
        SeenFromBehind x = hillOf(GRINDER, 0, 8, RIGHT, MASTER, 0, 14, DOWN);
        d.is("watched when the MASTER has turned", x.first(0, 0), 1);
        d.is("the MASTER has him in the lens", x.first(1, 1), 0);
        d.is("never in the lens", x.first(0, 1), -9);
        d.is("never watched", x.first(1, 0), -9);
        x = hillOf(GRINDER, 0, 17, LEFT, BORE, 0, 5, UP, GRINDER, 0, 35, RIGHT);
        // The BORE is between them: two behind is the GRINDER at 17, who stands in the way.
        d.is("in the lens now", x.first(1, 1), 0);
        x = hillOf(GRINDER, 9, 18, LEFT, BORE, 0, 8, UP, GRINDER, 0, 26, RIGHT);
        d.is("shown when the BORE has stepped back twice", x.first(0, 1), 2);
        x = twoViewers();
        d.is("watched now", x.first(0, 0), 0);
        d.is("first(2, 9)", x.first(2, 9), -1);
        d.is("first(-1, 0)", x.first(-1, 0), -1);
        d.is("first(0, 2)", x.first(0, 2), -2);
        d.is("first(0, -1)", x.first(0, -1), -2);
        refused(d, x, 2, 2, 0, 0, 0, 0);
        d.is("NIGHT", x.count(1), 0);
    }

    private static void still(Due d) {
        d.is("nobody", new SeenFromBehind().still(), 0);
        d.is("one turns", twoViewers().still(), 1);
        d.is("one steps twice", steppingBore().still(), 2);
        d.is("one turns for ever", masterBetween().still(), -9);
        SeenFromBehind x = hillOf(GRINDER, 0, 14, UP, GRINDER, 0, 20, RIGHT);
        d.is("one starts, but does nothing", x.still(), 0);
        d.is("NIGHT", x.count(1), 0);
    }

    private static void unseen(Due d) {
        d.is("nobody", new SeenFromBehind().unseen(), 0);
        d.is("each sees the other", twoViewers().unseen(), 0);
        d.is("he alone", hillOf(VIEWER, 0, 14, UP).unseen(), 1);
        d.is("one in the lens", withGrinderBehind(VIEWER).unseen(), 1);
        d.is("one watched", hillOf(GRINDER, 0, 14, RIGHT, VIEWER, 0, 20, UP).unseen(), 2);
        d.is("a third one", hillOf(VIEWER, 0, 14, UP, VIEWER, 0, 20, UP, VIEWER, 0, 35, UP).unseen(), 4);
    }

    private static void chain(Due d) {
        SeenFromBehind x = hillOf(VIEWER, 0, 8, UP, VIEWER, 0, 14, UP, VIEWER, 0, 20, UP);
        int[][] want = {{3, 0, 2}, {2, 0, 2}, {1, 0, 2}};
        for (int p = 0; p < 3; p++) {
            for (int what = 0; what < 3; what++) {
                d.is("chain(" + p + ", " + what + ")", x.chain(p, what), want[p][what]);
            }
        }
        x = hillOf(VIEWER, 0, 14, UP, VIEWER, 0, 20, DOWN, VIEWER, 0, 13, LEFT);
        int[][] ring = {{2, 1, 1}, {2, 1, 0}, {3, 1, 1}};
        for (int p = 0; p < 3; p++) {
            for (int what = 0; what < 3; what++) {
                d.is("ring: chain(" + p + ", " + what + ")", x.chain(p, what), ring[p][what]);
            }
        }
        // Round a square: the lens of each goes to the next one.
        x = hillOf(VIEWER, 0, 0, LEFT, VIEWER, 0, 1, UP, VIEWER, 0, 7, RIGHT, VIEWER, 0, 6, DOWN);
        d.is("a ring of four", x.chain(2, 0), 4);
        d.is("a ring of four comes again", x.chain(2, 1), 1);
        d.is("the last of the four", x.chain(2, 2), 1);
        d.is("chain(4, 9)", x.chain(4, 9), -1);
        d.is("chain(-1, 0)", x.chain(-1, 0), -1);
        d.is("chain(0, 3)", x.chain(0, 3), -2);
        d.is("chain(0, -1)", x.chain(0, -1), -2);
        refused(d, x, 2, 2, 0, 0, 0, 0);
        x = hillOf(GRINDER, 0, 0, LEFT, GRINDER, 0, 1, LEFT, GRINDER, 0, 2, LEFT, GRINDER, 0, 3, LEFT,
            GRINDER, 0, 4, LEFT, GRINDER, 0, 5, LEFT);
        d.is("six", x.chain(0, 0), 6);
        d.is("six, no ring", x.chain(0, 1), 0);
        d.is("six, the last", x.chain(0, 2), 5);
        x.turns(5, RIGHT);
        d.is("six, back to back at the end", x.chain(0, 1), 1);
    }

    private static void deepest(Due d) {
        d.is("nobody", new SeenFromBehind().deepest(), -9);
        d.is("all alike", hillOf(VIEWER, 0, 0, UP, VIEWER, 0, 35, UP).deepest(), 0);
        d.is("the first", hillOf(VIEWER, 0, 8, UP, VIEWER, 0, 14, UP, VIEWER, 0, 20, UP).deepest(), 0);
        d.is("the last", hillOf(VIEWER, 0, 14, UP, VIEWER, 0, 20, DOWN, VIEWER, 0, 13, LEFT).deepest(), 2);
        d.is("the least", hillOf(VIEWER, 0, 35, LEFT, VIEWER, 0, 14, UP, VIEWER, 0, 20, DOWN).deepest(), 1);
    }

    private static void knows(Due d) {
        SeenFromBehind x = hillOf(VIEWER, 0, 8, UP, VIEWER, 0, 14, UP, VIEWER, 0, 20, UP, VIEWER, 0, 35, UP);
        d.is("knows(0, 0)", x.knows(0, 0), 1);
        d.is("knows(0, 1)", x.knows(0, 1), 3);
        d.is("knows(0, 2)", x.knows(0, 2), 7);
        d.is("knows(0, 6)", x.knows(0, 6), 7);
        d.is("knows(1, 1)", x.knows(1, 1), 7);
        d.is("knows(2, 1)", x.knows(2, 1), 6);
        d.is("knows(2, 2)", x.knows(2, 2), 7);
        d.is("knows(3, 6)", x.knows(3, 6), 8);
        d.is("knows(4, -1)", x.knows(4, -1), -1);
        d.is("knows(-1, 0)", x.knows(-1, 0), -1);
        d.is("knows(0, -1)", x.knows(0, -1), -4);
        d.is("knows(0, 7)", x.knows(0, 7), -6);
        refused(d, x, 2, 0, 0, 1, 0, 1);
        x = hillOf(EDGE, 0, 0, LEFT, EDGE, 0, 1, LEFT, EDGE, 0, 2, LEFT, EDGE, 0, 3, LEFT, EDGE, 0, 4, LEFT,
            EDGE, 0, 5, LEFT);
        for (int depth = 0; depth < 6; depth++) {
            d.is("knows(0, " + depth + ")", x.knows(0, depth), (2 << depth) - 1);
        }
    }

    private static void safe(Due d) {
        SeenFromBehind x = hillOf(VIEWER, 0, 20, UP, GRINDER, 0, 14, UP);
        d.is("one above", x.safe(0, 0), 1 + 2 + 8);
        d.is("one above, best", x.safe(0, 1), UP);
        x.stands(1, 2);
        d.is("three above", x.safe(0, 0), 15);
        d.is("three above, best", x.safe(0, 1), UP);
        x.stands(1, 21);
        d.is("one to the right", x.safe(0, 0), 1 + 2 + 4);
        d.is("one to the right, best", x.safe(0, 1), RIGHT);
        x.stands(1, 0);
        d.is("nobody seen", x.safe(0, 0), 15);
        d.is("nobody seen, best", x.safe(0, 1), -9);
        x.stands(1, 14);
        x.person(GRINDER, 0, 26, UP);
        d.is("above and below", x.safe(0, 0), 2 + 8);
        d.is("above and below, best", x.safe(0, 1), -9);
        d.is("a GRINDER sees nobody ahead", x.safe(1, 1), -9);
        x.person(GRINDER, 0, 19, UP);
        d.is("left, too", x.safe(0, 0), 8);
        d.is("left, too, best", x.safe(0, 1), LEFT);
        stateIs(d, x, 0, 20, UP, 0);
        d.is("safe(4, 9)", x.safe(4, 9), -1);
        d.is("safe(-1, 0)", x.safe(-1, 0), -1);
        d.is("safe(0, 2)", x.safe(0, 2), -2);
        d.is("safe(0, -1)", x.safe(0, -1), -2);
        refused(d, x, 2, 2, 0, 0, 0, 0);
    }

    private static void alone(Due d) {
        SeenFromBehind x = hillOf(VIEWER, 0, 0, UP, GRINDER, 0, 35, UP);
        d.is("two cells have him in the lens", x.alone(0, 0), 32);
        d.is("the least is not his own", x.alone(0, 1), 1);
        x = hillOf(VIEWER, 0, 0, UP, GIRL, 0, 35, LEFT);
        d.is("four cells are watched, too", x.alone(0, 0), 28);
        d.is("the first cell", hillOf(VIEWER, 0, 5, UP).alone(0, 1), 0);
        d.is("all but his own", hillOf(VIEWER, 0, 5, UP).alone(0, 0), 35);
        x = hillOf(VIEWER, 0, 35, DOWN, VIEWER, 0, 0, RIGHT);
        // Watched: 1, 2, 3. In the lens (up): 6, 12. His own cell and the other's are not free.
        d.is("how many", x.alone(0, 0), 36 - 2 - 3 - 2);
        d.is("the least", x.alone(0, 1), 4);
        x = hillOf(VIEWER, 0, 2, UP, MASTER, 0, 0, RIGHT, GRINDER, 0, 5, RIGHT);
        // He himself stands in nobody's way when he is elsewhere: 1, 3, 4 are watched; 2 is his own.
        d.is("the least behind the watched ones", x.alone(0, 1), 6);
        stateIs(d, x, 0, 2, UP, 0);
        d.is("alone(3, 9)", x.alone(3, 9), -1);
        d.is("alone(-1, 0)", x.alone(-1, 0), -1);
        d.is("alone(0, 2)", x.alone(0, 2), -2);
        d.is("alone(0, -1)", x.alone(0, -1), -2);
        refused(d, x, 2, 2, 0, 0, 0, 0);
    }

    private static void turnAll(Due d) {
        d.is("nobody", new SeenFromBehind().turnAll(), 0);
        d.is("one watches", twoViewers().turnAll(), 1);
        d.is("each other", hillOf(VIEWER, 0, 14, DOWN, VIEWER, 0, 20, UP).turnAll(), 2);
        d.is("none watches", withGrinderBehind(VIEWER).turnAll(), 0);
        SeenFromBehind x = hillOf(VIEWER, 0, 14, RIGHT, GRINDER, 0, 15, UP, GRINDER, 0, 13, UP, GRINDER, 0, 20, UP);
        d.is("up is left", x.turnAll(), 1);
        x = hillOf(VIEWER, 0, 14, UP, GRINDER, 0, 8, UP, GRINDER, 0, 15, UP, GRINDER, 0, 13, UP);
        d.is("one way is left", x.turnAll(), 1);
        x.person(GRINDER, 0, 32, UP);
        d.is("three below", x.turnAll(), -9);
        x.stands(4, 31);
        d.is("one way is left again", x.turnAll(), 1);
    }

    private static void post(Due d) {
        SeenFromBehind x = hillOf(GRINDER, 0, 35, UP);
        int[] want = {172, 112, 172, 52, -9, 52};
        for (int kind = 0; kind < 6; kind++) {
            d.is("post(" + kind + ")", x.post(kind), want[kind]);
        }
        x = hillOf(GIRL, 0, 35, UP);
        d.is("where he is not watched", x.post(VIEWER), 321);
        d.is("all the first row is watched", hillOf(MASTER, 0, 0, RIGHT).post(VIEWER), 60);
        // At 0 he would have the one at 1 ahead, but the one at 6 in the lens only if he faces up.
        x = hillOf(GRINDER, 0, 1, UP, GRINDER, 0, 6, UP);
        d.is("post(0)", x.post(VIEWER), 1);
        x = hillOf(GRINDER, 0, 1, UP, GRINDER, 0, 12, UP, GRINDER, 0, 0, UP);
        // At 2 he faces left (3): nobody is to the right.
        d.is("post(0), others in the cells", x.post(VIEWER), 23);
        x = hillOf(GRINDER, 0, 7, UP, GRINDER, 0, 19, UP, VIEWER, 0, 1, UP);
        // At 0: right, 1 is ahead, nobody to the left.
        d.is("post(3)", x.post(MASTER), 1);
        d.is("post(-1)", x.post(-1), -2);
        d.is("post(6)", x.post(6), -2);
        d.is("count(0)", x.count(0), 3);
        x.person(0, 0, 30, 0);
        x.person(0, 0, 31, 0);
        x.person(0, 0, 32, 0);
        d.is("post(0), six there", x.post(0), -3);
        d.is("post(6), six there", x.post(6), -2);
        refused(d, x, 0, 3, 1, 0, 0, 0);
        d.is("nobody", new SeenFromBehind().post(0), -9);
    }

    private static void which(Due d) {
        SeenFromBehind x = withGrinderBehind(MASTER);
        d.is("no numbers, kinds", x.which(0, 0), 63);
        d.is("no numbers, figures", x.which(0, 1), 1023);
        d.is("no numbers, faces", x.which(0, 2), 15);
        tellRow(x, 0, 2);
        d.is("round", x.which(0, 0), 1 << MASTER);
        d.is("round, figures", x.which(0, 1), 1023);
        d.is("round, faces", x.which(0, 2), 1 << UP);
        tellRow(x, 0, 1);
        d.is("to the right", x.which(0, 0), 1 << GIRL);
        d.is("to the right, figures", x.which(0, 1), 0);
        tellRow(x, 0, 0);
        d.is("as he was", x.which(0, 0), 1 + 4 + 16 + 32);
        tellRow(x, 1);
        d.is("now, kinds", x.which(0, 0), 0);
        d.is("now, faces", x.which(0, 2), 2);
        tellRow(x, 4);
        d.is("no faces", x.which(0, 2), 0);
        tellRow(x, 99);
        d.is("99", x.which(0, 0), 0);
        d.is("the row stays", x.count(6), 1);
        x = hillOf(MASTER, 0, 14, UP, GRINDER, 0, 32, RIGHT);
        tellRow(x, 0, 2, 2, 2, 2, 2, 2, 2, 2, 2, 2, 2);
        d.is("three behind, figures", x.which(0, 1), 1023 - 15);
        tellRow(x, 0, 0, 0, 0, 0, 0, 0, 0, 0, 0, 0, 0);
        d.is("three behind, figures too small", x.which(0, 1), 15);
        d.is("three behind, kinds", x.which(0, 0), 63);
        d.is("which(2, 9)", x.which(2, 9), -1);
        d.is("which(-1, 0)", x.which(-1, 0), -1);
        d.is("which(0, 3)", x.which(0, 3), -2);
        d.is("which(0, -1)", x.which(0, -1), -2);
        refused(d, x, 2, 2, 0, 0, 0, 0);
        stateIs(d, x, 0, 14, UP, 0);
        d.is("personOf(0, 1)", x.personOf(0, 1), 0);
        d.is("personOf(0, 0)", x.personOf(0, 0), MASTER);
    }

    private static void bestStep(Due d) {
        d.is("alone", hillOf(GRINDER, 0, 14, UP).bestStep(0), UP);
        d.is("in the corner", hillOf(GRINDER, 0, 0, UP).bestStep(0), RIGHT);
        d.is("in the last corner", hillOf(GRINDER, 0, 35, UP).bestStep(0), UP);
        SeenFromBehind x = hillOf(GRINDER, 0, 14, UP, GIRL, 0, 17, LEFT);
        d.is("up, out of her sight", x.bestStep(0), UP);
        x.person(GRINDER, 0, 8, RIGHT);
        d.is("down, out of her sight", x.bestStep(0), DOWN);
        x.person(VIEWER, 0, 19, RIGHT);
        // Up is taken, right is watched by one, down by one, left (13) by her still.
        d.is("one watches everywhere", x.bestStep(0), RIGHT);
        x = hillOf(GRINDER, 0, 0, UP, GRINDER, 0, 1, UP, GRINDER, 0, 6, UP);
        d.is("no way out", x.bestStep(0), 4);
        x = hillOf(GRINDER, 0, 0, UP, VIEWER, 0, 3, LEFT, GRINDER, 0, 6, UP, GRINDER, 0, 1, UP);
        d.is("staying, for nothing else is free", x.bestStep(0), 4);
        x = hillOf(GRINDER, 0, 0, UP, VIEWER, 0, 7, UP, VIEWER, 0, 18, UP);
        // Staying: 0 is watched by the one at 18; right: by the one at 7; down: by the one at 18.
        d.is("all alike, staying last", x.bestStep(0), RIGHT);
        x = hillOf(GRINDER, 0, 0, UP, VIEWER, 0, 7, UP, VIEWER, 0, 8, LEFT, VIEWER, 0, 24, UP);
        // Right is watched by the one at 7; down by the one at 24; staying by nobody.
        d.is("staying", x.bestStep(0), 4);
        d.is("bestStep(4)", x.bestStep(4), -1);
        d.is("bestStep(-1)", x.bestStep(-1), -1);
        stateIs(d, x, 0, 0, UP, 0);
        refused(d, x, 2, 0, 0, 0, 0, 0);
    }

    private static void two(Due d) {
        d.is("he steps aside", twoViewers().two(0, 1), RIGHT);
        SeenFromBehind x = hillOf(VIEWER, 0, 1, UP, GRINDER, 0, 0, UP, GRINDER, 0, 6, UP);
        d.is("he can but stay, and is seen in the lens", x.two(0, 1), 10 * RIGHT + 4);
        x = hillOf(EDGE, 0, 2, UP, GRINDER, 0, 0, UP, GRINDER, 0, 6, UP);
        // The EDGE's lens goes one cell: facing right he has the one at 1, not at 0; facing left he has either.
        d.is("seen wherever he goes", x.two(0, 1), 10 * LEFT + 1);
        x = hillOf(VIEWER, 0, 35, UP, GRINDER, 0, 0, UP);
        d.is("far apart", x.two(0, 1), RIGHT);
        x = hillOf(VIEWER, 0, 1, UP, GRINDER, 0, 8, UP);
        // Up, at 2, he would be seen by one who turns to the right; at 9 by no faces.
        d.is("not up", x.two(0, 1), RIGHT);
        x = hillOf(VIEWER, 0, 6, UP, GRINDER, 0, 0, UP, GRINDER, 0, 1, UP);
        d.is("he can but stay, and is ahead", x.two(0, 1), 10 * UP + 4);
        x = hillOf(GRINDER, 0, 14, DOWN, VIEWER, 0, 9, UP);
        // Down to 15 he would be seen; up, to 3, he is not.
        d.is("up", x.two(0, 1), UP);
        d.is("two(0, 0)", x.two(0, 0), -1);
        d.is("two(0, 2)", x.two(0, 2), -1);
        d.is("two(2, 0)", x.two(2, 0), -1);
        d.is("two(-1, 0)", x.two(-1, 0), -1);
        d.is("two(0, -1)", x.two(0, -1), -1);
        stateIs(d, x, 0, 14, DOWN, 0);
        stateIs(d, x, 1, 9, UP, 0);
        refused(d, x, 5, 0, 0, 0, 0, 0);
    }

    private static void likely(Due d, SeenFromBehind x, int f, int n, int t, long above, long below) {
        String call = "slept(0, " + f + ", " + n + ", " + t + ", ";
        d.is(call + "0)", x.slept(0, f, n, t, 0), above);
        d.is(call + "1)", x.slept(0, f, n, t, 1), below);
    }

    private static void slept(Due d) {
        SeenFromBehind x = withGrinderBehind(MASTER);
        likely(d, x, UP, 0, 2, 1, 1);
        likely(d, x, DOWN, 0, 2, 0, 1);
        likely(d, x, UP, 3, 2, 1, 8);
        likely(d, x, DOWN, 3, 2, 7, 8);
        likely(d, x, RIGHT, 3, 2, 0, 1);
        likely(d, x, UP, 8, 20, 1, 25600000000L);
        likely(d, x, DOWN, 8, 20, 25599999999L, 25600000000L);
        x = masterBetween();
        likely(d, x, UP, 2, 3, 5, 9);
        likely(d, x, DOWN, 2, 3, 4, 9);
        likely(d, x, UP, 2, 4, 5, 8);
        // Two kinds of nights: both awake, or one of the two asleep; the other one's doings go on.
        x = hillOf(VIEWER, 0, 14, UP, GIRL, 0, 20, UP, GRINDER, 0, 26, RIGHT);
        // Awake on the first night he turns; else she has turned away, and he stays.
        likely(d, x, DOWN, 4, 5, 4, 5);
        likely(d, x, UP, 4, 5, 1, 5);
        stateIs(d, x, 0, 14, UP, 0);
        long no = 4000000000000000000L;
        d.is("slept(3, ..)", x.slept(3, 9, -1, 1, 9), no + 1);
        d.is("slept(-1, ..)", x.slept(-1, 0, 0, 2, 0), no + 1);
        d.is("slept(0, 4, -1, ..)", x.slept(0, 4, -1, 1, 9), no + 1);
        d.is("slept(0, -1, ..)", x.slept(0, -1, 0, 2, 0), no + 1);
        d.is("slept(0, 0, -1, 21, 9)", x.slept(0, 0, -1, 21, 9), no + 4);
        d.is("slept(0, 0, 9, 1, 9)", x.slept(0, 0, 9, 1, 9), no + 4);
        d.is("slept(0, 0, 9, 2, 9)", x.slept(0, 0, 9, 2, 9), no + 6);
        d.is("slept(0, 0, 0, 21, 9)", x.slept(0, 0, 0, 21, 9), no + 6);
        d.is("slept(0, 0, 0, 2, 2)", x.slept(0, 0, 0, 2, 2), no + 2);
        d.is("slept(0, 0, 0, 2, -1)", x.slept(0, 0, 0, 2, -1), no + 2);
        refused(d, x, 4, 2, 0, 2, 0, 2);
    }

    private static void busiest(Due d) {
        SeenFromBehind x = new SeenFromBehind();
        d.is("nobody", x.busiest(0), -9);
        d.is("nobody, how many", x.busiest(1), -9);
        d.is("busiest(2)", x.busiest(2), -2);
        d.is("busiest(-1)", x.busiest(-1), -2);
        refused(d, x, 0, 2, 0, 0, 0, 0);
        x = hillOf(GRINDER, 0, 0, UP, GRINDER, 0, 35, UP);
        d.is("none watched", x.busiest(0), 0);
        d.is("none watched, how many", x.busiest(1), 0);
        x = hillOf(GRINDER, 0, 14, UP, VIEWER, 0, 20, UP);
        d.is("watched by one", x.busiest(0), 0);
        d.is("watched by one, how many", x.busiest(1), 1);
        x = hillOf(VIEWER, 0, 8, DOWN, VIEWER, 0, 13, RIGHT, GRINDER, 0, 14, UP, GRINDER, 0, 20, UP);
        d.is("watched by two", x.busiest(0), 2);
        d.is("watched by two, how many", x.busiest(1), 2);
        x = hillOf(VIEWER, 0, 0, UP, VIEWER, 0, 14, DOWN, VIEWER, 0, 20, UP);
        d.is("the least of several", x.busiest(0), 1);
        d.is("the least of several, how many", x.busiest(1), 1);
    }

    private static void twos(Due d) {
        SeenFromBehind x = hillOf(VIEWER, 0, 14, DOWN, VIEWER, 0, 20, UP);
        d.is("face to face", x.twos(0), 1);
        d.is("not back to back", x.twos(1), 0);
        x = hillOf(VIEWER, 0, 14, UP, VIEWER, 0, 20, DOWN);
        d.is("not face to face", x.twos(0), 0);
        d.is("back to back", x.twos(1), 1);
        d.is("one way", twoViewers().twos(0), 0);
        d.is("one way, the lens", withGrinderBehind(VIEWER).twos(1), 0);
        x = hillOf(VIEWER, 0, 14, DOWN, VIEWER, 0, 0, RIGHT, VIEWER, 0, 3, LEFT, VIEWER, 0, 20, UP, GRINDER, 0, 34, LEFT,
            GRINDER, 0, 35, RIGHT);
        d.is("two twos", x.twos(0), 2);
        d.is("one two", x.twos(1), 1);
        d.is("twos(2)", x.twos(2), -2);
        d.is("twos(-1)", x.twos(-1), -2);
        refused(d, x, 0, 2, 0, 0, 0, 0);
        d.is("nobody", new SeenFromBehind().twos(1), 0);
    }

    private static void nearest(Due d) {
        SeenFromBehind x = new SeenFromBehind();
        d.is("nobody", x.nearest(0), -9);
        d.is("nobody, how many", x.nearest(1), -9);
        x.person(0, 0, 0, 0);
        d.is("one alone", x.nearest(0), -9);
        d.is("one alone, how many", x.nearest(1), -9);
        x.person(0, 0, 35, 0);
        d.is("two", x.nearest(0), 1);
        d.is("two, how many", x.nearest(1), 10);
        x.person(0, 0, 7, 0);
        d.is("rows and columns", x.nearest(0), 2);
        d.is("rows and columns, how many", x.nearest(1), 2);
        x.person(0, 0, 33, 0);
        d.is("the first of several", x.nearest(0), 2);
        x.stands(3, 34);
        d.is("beside", x.nearest(0), 13);
        d.is("beside, how many", x.nearest(1), 1);
        d.is("nearest(2)", x.nearest(2), -2);
        d.is("nearest(-1)", x.nearest(-1), -2);
        refused(d, x, 0, 2, 0, 0, 0, 0);
    }

    private static void lines(Due d) {
        d.is("nobody", new SeenFromBehind().lines(), 0);
        d.is("on a slant", hillOf(0, 0, 0, 0, 0, 0, 7, 0).lines(), 0);
        d.is("a row", hillOf(0, 0, 30, 0, 0, 0, 35, 0).lines(), 1);
        d.is("a column", hillOf(0, 0, 5, 0, 0, 0, 35, 0).lines(), 1);
        d.is("a row and a column", hillOf(0, 0, 0, 0, 0, 0, 1, 0, 0, 0, 6, 0).lines(), 2);
        d.is("three in a row", hillOf(0, 0, 0, 0, 0, 0, 1, 0, 0, 0, 4, 0).lines(), 1);
        d.is("a square", hillOf(0, 0, 28, 0, 0, 0, 29, 0, 0, 0, 34, 0, 0, 0, 35, 0).lines(), 4);
    }

    private static void hidden(Due d) {
        d.is("nobody", new SeenFromBehind().hidden(), 0);
        SeenFromBehind x = hillOf(GRINDER, 0, 30, UP, GRINDER, 0, 0, LEFT);
        d.is("five ahead", x.hidden(), 1);
        x.stands(1, 1);
        d.is("not straight", x.hidden(), 3);
        x.stands(1, 0);
        x.person(GRINDER, 0, 12, LEFT);
        d.is("the next one alone", x.hidden(), 3);
        d.is("the lens does not count", hillOf(GRINDER, 0, 30, DOWN, GRINDER, 0, 24, LEFT).hidden(), 3);
    }

    private static void longest(Due d) {
        d.is("nobody", new SeenFromBehind().longest(), -9);
        d.is("the least of several", hillOf(GRINDER, 0, 0, 0, MASTER, 0, 1, 0, EDGE, 6, 2, 0).longest(), 1);
        d.is("the greatest", hillOf(GRINDER, 0, 0, 0, MASTER, 0, 1, 0, EDGE, 9, 2, 0).longest(), 2);
        d.is("no reach", hillOf(GRINDER, 0, 0, 0, GRINDER, 9, 1, 0).longest(), 0);
    }

    private static void walks(Due d) {
        SeenFromBehind x = steppingBore();
        d.is("walks(0, 0, 0)", x.walks(0, 0, 0), 0);
        d.is("walks(0, 1, 0)", x.walks(0, 1, 0), 1);
        d.is("walks(0, 60, 0)", x.walks(0, 60, 0), 2);
        d.is("walks(0, 60, 1)", x.walks(0, 60, 1), 0);
        d.is("walks(1, 60, 0)", x.walks(1, 60, 0), 0);
        x = masterBetween();
        d.is("a MASTER steps", x.walks(0, 7, 0), 0);
        d.is("a MASTER turns", x.walks(0, 7, 1), 7);
        d.is("a MASTER turns", x.walks(0, 60, 1), 60);
        d.is("a GIRL turns", withGrinderBehind(GIRL).walks(0, 9, 1), 1);
        d.is("an EDGE steps", withGrinderBehind(EDGE).walks(0, 9, 0), 1);
        stateIs(d, x, 0, 14, UP, 0);
        d.is("walks(3, -1, 9)", x.walks(3, -1, 9), -1);
        d.is("walks(-1, ..)", x.walks(-1, 0, 0), -1);
        d.is("walks(0, -1, 9)", x.walks(0, -1, 9), -4);
        d.is("walks(0, 61, 9)", x.walks(0, 61, 9), -6);
        d.is("walks(0, 60, 2)", x.walks(0, 60, 2), -2);
        d.is("walks(0, 60, -1)", x.walks(0, 60, -1), -2);
        refused(d, x, 2, 2, 0, 1, 0, 1);
    }

    private static void meets(Due d) {
        SeenFromBehind x = steppingBore();
        d.is("when he has stepped back twice", x.meets(0, 1), 2);
        d.is("either way", x.meets(1, 0), 2);
        d.is("beside each other now", twoViewers().meets(0, 1), 0);
        d.is("left and right", hillOf(GRINDER, 0, 7, UP, GRINDER, 0, 8, UP).meets(1, 0), 0);
        d.is("on a slant", hillOf(GRINDER, 0, 0, UP, GRINDER, 0, 7, UP).meets(0, 1), -9);
        d.is("from row to row", hillOf(GRINDER, 0, 5, UP, GRINDER, 0, 6, UP).meets(0, 1), -9);
        d.is("meets(0, 0)", x.meets(0, 0), -1);
        d.is("meets(0, 2)", x.meets(0, 2), -1);
        d.is("meets(-1, 0)", x.meets(-1, 0), -1);
        d.is("meets(2, 2)", x.meets(2, 2), -1);
        refused(d, x, 4, 0, 0, 0, 0, 0);
        stateIs(d, x, 0, 8, UP, 0);
    }

    private static void leave(Due d) {
        SeenFromBehind x = hillOf(GRINDER, 0, 2, UP, GRINDER, 0, 8, RIGHT, VIEWER, 0, 14, UP, VIEWER, 0, 3, LEFT);
        d.is("he stands in the way", x.behind(0, 0, 5), 8);
        d.is("leave(0, 1)", x.leave(0, 1), 4 + 8);
        d.is("leave(0, 2)", x.leave(0, 2), 8);
        d.is("leave(0, 3)", x.leave(0, 3), 0);
        d.is("leave(1, 2)", x.leave(1, 2), 0);
        d.is("leave(1, 0)", x.leave(1, 0), 4);
        d.is("leave(0, 0)", x.leave(0, 0), -1);
        d.is("leave(4, 0)", x.leave(4, 0), -1);
        d.is("leave(0, 4)", x.leave(0, 4), -1);
        d.is("leave(0, -1)", x.leave(0, -1), -1);
        d.is("all are there", x.count(0), 4);
        stateIs(d, x, 1, 8, RIGHT, 0);
        refused(d, x, 4, 0, 0, 0, 0, 0);
        x = hillOf(GRINDER, 0, 0, UP, VIEWER, 0, 3, LEFT, VIEWER, 0, 2, LEFT);
        d.is("at the left end", x.leave(0, 2), 2);
    }

    private static void most(Due d) {
        SeenFromBehind x = hillOf(GRINDER, 0, 35, UP, VIEWER, 0, 0, RIGHT, VIEWER, 0, 20, UP);
        d.is("where two see him", x.most(0, 0), 2);
        d.is("how many", x.most(0, 1), 2);
        x.stands(0, 2);
        d.is("his own cell is not free", x.most(0, 0), 1);
        d.is("how many elsewhere", x.most(0, 1), 1);
        d.is("the first cell", hillOf(GRINDER, 0, 35, UP, VIEWER, 0, 6, UP).most(0, 0), 0);
        x = hillOf(GRINDER, 0, 0, UP);
        d.is("none sees him", x.most(0, 0), 1);
        d.is("none sees him, how many", x.most(0, 1), 0);
        x = hillOf(GRINDER, 0, 1, UP, MASTER, 0, 0, RIGHT);
        d.is("he does not hide himself", x.most(0, 0), 2);
        stateIs(d, x, 0, 1, UP, 0);
        d.is("most(2, 9)", x.most(2, 9), -1);
        d.is("most(-1, 0)", x.most(-1, 0), -1);
        d.is("most(0, 2)", x.most(0, 2), -2);
        d.is("most(0, -1)", x.most(0, -1), -2);
        refused(d, x, 2, 2, 0, 0, 0, 0);
    }

    private static void quiet(Due d) {
        d.is("nobody", new SeenFromBehind().quiet(60), 1);
        SeenFromBehind x = hillOf(GRINDER, 0, 14, UP, GRINDER, 0, 20, RIGHT);
        d.is("quiet(0)", x.quiet(0), 1);
        d.is("quiet(1)", x.quiet(1), 0);
        d.is("quiet(-1)", x.quiet(-1), -4);
        d.is("quiet(61)", x.quiet(61), -6);
        refused(d, x, 0, 0, 0, 1, 0, 1);
        x.nights(60);
        x.nights(60);
        d.is("a start beyond the 99", x.quiet(1), 0);
        x.turns(0, DOWN);
        d.is("nobody behind", x.quiet(60), 1);
        d.is("NIGHT", x.count(1), 120);
    }

    private static void row(Due d) {
        SeenFromBehind x = new SeenFromBehind();
        d.is("row(-1)", x.row(-1), -4);
        d.is("row(100)", x.row(100), -6);
        d.is("row(greatest)", x.row(MAX), -6);
        for (int i = 1; i <= 12; i++) {
            d.is("row " + i, x.row(i == 1 ? 99 : 0), i);
        }
        d.is("row(0), twelve there", x.row(0), -6);
        d.is("row(-1), twelve there", x.row(-1), -4);
        d.is("count(6)", x.count(6), 12);
        refused(d, x, 0, 0, 0, 2, 0, 3);
    }

    private static void judge(Due d) {
        SeenFromBehind x = hillOf(0, 0, 14, 0, 0, 0, 35, 0);
        d.is("no numbers", x.judge(), -9);
        tellRow(x, 14, 35);
        d.is("so", x.judge(), -9);
        d.is("then it has none", x.count(6), 0);
        tellRow(x, 14);
        d.is("a part of them", x.judge(), -9);
        tellRow(x, 35, 14);
        d.is("the first is not so", x.judge(), 0);
        d.is("then it has none, too", x.count(6), 0);
        tellRow(x, 14, 34, 99);
        d.is("the second is not so", x.judge(), 1);
        tellRow(x, 14, 35, 0);
        d.is("nobody there", x.judge(), 2);
        d.is("a new object", new SeenFromBehind().judge(), -9);
        refused(d, x, 0, 0, 0, 0, 0, 0);
    }

    private static void clear(Due d) {
        SeenFromBehind x = new SeenFromBehind();
        d.is("clear()", x.clear(), 0);
        x.row(5);
        x.row(6);
        d.is("clear()", x.clear(), 2);
        d.is("clear()", x.clear(), 0);
        d.is("count(6)", x.count(6), 0);
        d.is("row(7)", x.row(7), 1);
    }

    private static void lots(Due d) {
        int[] seeds = {0, 1, 7, -1, MIN, MAX, 123456789};
        for (int z : seeds) {
            for (int n = 1; n <= 20; n += 19) {
                SeenFromBehind x = hillOf(GRINDER, 0, 14, UP, GRINDER, 0, 20, LEFT);
                x.nights(3);
                SeenFromBehind far = hillOf(VIEWER, 0, 14, UP, GRINDER, 0, 32, UP);
                int[] draws = draws(z, 2 * n);
                int starts = 0;
                int watching = 0;
                for (int i = 0; i < n; i++) {
                    starts += draws[2 * i] == UP ? 10 : 0;
                    starts += draws[2 * i + 1] == DOWN ? 10 : 0;
                    watching += draws[2 * i] == DOWN ? 1 : 0;
                }
                d.is("lots(" + n + ", " + z + ", 0)", x.lots(n, z, 0), starts);
                d.is("GRINDERS watch nobody", x.lots(n, z, 1), 0);
                d.is("lots(" + n + ", " + z + ", 1)", far.lots(n, z, 1), watching);
                stateIs(d, x, 0, 14, UP, 3);
                d.is("NIGHT", x.count(1), 3);
            }
        }
        SeenFromBehind x = twoViewers();
        d.is("lots(0, 0, 9)", x.lots(0, 0, 9), -4);
        d.is("lots(-1, ..)", x.lots(-1, 0, 0), -4);
        d.is("lots(21, 0, 9)", x.lots(21, 0, 9), -6);
        d.is("lots(20, 0, 2)", x.lots(20, 0, 2), -2);
        d.is("lots(20, 0, -1)", x.lots(20, 0, -1), -2);
        refused(d, x, 0, 2, 0, 2, 0, 1);
    }

    private static void image(Due d) {
        SeenFromBehind x = twoViewers();
        d.is("image()", x.image(), 0);
        x.nights(5);
        d.is("image()", x.image(), 5);
        x.nights(1);
        d.is("the latest image", x.restore(), 5);
        d.is("image of nobody", new SeenFromBehind().image(), 0);
    }

    private static void restore(Due d) {
        SeenFromBehind x = twoViewers();
        d.is("no image", x.restore(), -3);
        x.nights(2);
        x.feed('p');
        x.row(5);
        x.image();
        x.turns(0, LEFT);
        x.stands(1, 0);
        x.nights(7);
        x.person(EDGE, 9, 35, LEFT);
        x.feed('q');
        x.row(6);
        x.turns(0, UP);
        d.is("restore()", x.restore(), 2);
        d.is("count(0)", x.count(0), 2);
        d.is("count(1)", x.count(1), 2);
        d.is("count(2)", x.count(2), 1);
        d.is("letters are not in it", x.count(5), 2);
        d.is("the row is not in it", x.count(6), 2);
        d.is("nothing to be taken back", x.count(7), 0);
        d.is("refusals are not in it", x.count(13), 1);
        stateIs(d, x, 0, 14, DOWN, 1);
        stateIs(d, x, 1, 20, UP, 0);
        x.nights(9);
        d.is("once more", x.restore(), 2);
        d.is("a newcomer", x.person(MASTER, 3, 35, RIGHT), 2);
        d.is("his kind", x.personOf(2, 0), MASTER);
        stateIs(d, x, 2, 35, RIGHT, 0);
        x = hillOf(GRINDER, 0, 35, UP);
        x.image();
        x.person(GRINDER, 0, 14, UP);
        x.person(GRINDER, 0, 20, RIGHT);
        d.is("the later one starts", x.nights(3), 3);
        x.restore();
        d.is("another one comes", x.person(GRINDER, 0, 14, UP), 1);
        stateIs(d, x, 1, 14, UP, 0);
        SeenFromBehind empty = new SeenFromBehind();
        empty.image();
        empty.person(0, 0, 0, 0);
        d.is("nobody again", empty.restore(), 0);
        d.is("count(0)", empty.count(0), 0);
    }

    private static void count(Due d) {
        SeenFromBehind x = hillOf(VIEWER, 0, 14, UP, VIEWER, 0, 20, UP, GRINDER, 0, 26, RIGHT, MASTER, 0, 0, RIGHT);
        x.person(GRINDER, 0, 11, DOWN);
        x.nights(2);
        x.turns(0, UP);
        x.feed('n');
        x.row(3);
        x.row(4);
        // On the first night 0 turns, whom 1 watches; 1, whom nobody watches, starts on both nights.
        // Then 0, turned back, has 1 in the lens; 1 has 0 ahead and 2 in the lens.
        int[] want = {5, 2, 3, 1, 2, 1, 2, 2};
        for (int what = 0; what < want.length; what++) {
            d.is("count(" + what + ")", x.count(what), want[what]);
        }
        for (int what : new int[] {-1, 8, 9, 10, 17, MIN, MAX}) {
            d.is("count(" + what + ")", x.count(what), -9);
        }
        refused(d, x, 0, 0, 0, 0, 0, 0);
        x.turns(9, 0);
        x.twos(2);
        x.twos(2);
        x.restore();
        x.nights(0);
        x.nights(61);
        x.nights(61);
        x.nights(61);
        refused(d, x, 1, 2, 1, 1, 0, 3);
    }
}
